/-! the law's methods: sown, its walk and its beginning -/
theorem sown_276 {Φ : oz_C} {A : oz_Y} (hC : oz_Cl t_L_sown Φ A) {S : St} {b p N1 : Nat} {G1 : oz_G} (hx : SwX S b p N1 G1) (dn : ∀ (W : Wd) (N : Nat) (G : oz_G) (R : oz_R) (J : oz_J), N1 ≤ N → CR N G R W → wOk W → Φ (some (.int (nI 1))) N G R J) {W : Wd} (e : wS W = S) {N : Nat} {G : oz_G} {R : oz_R} {J : oz_J} (s : Rn N1 G1 W N G R) (v3 v9 v10 v11 v12 v13 v14 : Option Value) : A 276 [some (.ref 0), some (.int (nI p)), some (.int (nI (sN S))), v3, some (.ref b), some (.ref (b + 1)), some (.int (nI (sAt S p))), some (.int (nI (sLp S p))), some (.int (nI 0)), v9, v10, v11, v12, v13, v14] [] N G R J 16 := by
  subst e
  obtain ⟨f1, f2, f3, f4, f5, f6, f7, f8⟩ := sw_f hx.1 hx.2.2.2.2.1 hx.2.2.2.2.2.1
  have h6 := hx.1.2.1
  have hlf := lf_le (c := sC (wS W))
  refine hC.1 [313] 60 276 _ _ _ _ _ _ _ (ctK (qc 4 (by decide)) s fun N2 G2 R2 J2 s2 => ⟨fun q => ⟨fun _ => ?_, fun z => absurd rfl z⟩, fun q => ⟨fun z => absurd z (show ¬ nI 1 = nI 0 by decide), fun _ => ⟨fun q2 => ?_, fun q2 => ?_⟩⟩⟩)
  · have q : nI (sN (wS W)) ≤ nI (sAt (wS W) p) := q
    rw [nI_leI (by omega) (by omega)] at q
    have z : sAt (wS W) p = sN (wS W) := by omega
    have hf := fun a b c d f => sown_313 hC hx dn rfl s2 (J := J2) a b c d f
    rw [show sWr (wS W) p = 0 from if_pos z, show sLs (wS W) p = 0 from if_pos z] at hf
    exact hf _ _ _ _ _
  · have q : ¬ nI (sN (wS W)) ≤ nI (sAt (wS W) p) := q
    rw [nI_leI (by omega) (by omega)] at q
    have z : ¬ sAt (wS W) p = sN (wS W) := by omega
    have q2 : ¬ nI (lf (sC (wS W))) = nI 0 := q2
    rw [nI_eq (by omega) (by decide)] at q2
    have hf := fun a b c d f => sown_313 hC hx dn rfl s2 (J := J2) a b c d f
    rw [show sWr (wS W) p = 1 from if_neg z, show sLs (wS W) p = 0 by unfold sLs; rw [if_neg z]; omega] at hf
    exact hf _ _ _ _ _
  · have q : ¬ nI (sN (wS W)) ≤ nI (sAt (wS W) p) := q
    rw [nI_leI (by omega) (by omega)] at q
    have z : ¬ sAt (wS W) p = sN (wS W) := by omega
    have q2 : ¬ ¬ nI (lf (sC (wS W))) = nI 0 := q2
    have q2 := Classical.not_not.mp q2
    rw [nI_eq (by omega) (by decide)] at q2
    have hf := fun a b c d f => sown_313 hC hx dn rfl s2 (J := J2) a b c d f
    rw [show sWr (wS W) p = 1 from if_neg z, show sLs (wS W) p = 1 by unfold sLs; rw [if_neg z]; omega] at hf
    exact hf _ _ _ _ _
theorem ArH_st {b n q c j : Nat} {G : oz_G} {v : Int32} (h : ArH b n q c G) {q' : Nat} (hv : v = nI (dg q' j)) (ho : ∀ i, i ≤ n → i ≠ j → dg q' i = dg q i) : ArH b n q' c (oz2 G b j v) := fun i hi => by
  rw [oz2_row (a := b + 1) (by omega)]
  refine ⟨?_, (h i hi).2⟩
  by_cases z : i = j
  · rw [z, oz2_self, hv]
  · rw [oz2_ne z, ho i hi z]
    exact (h i hi).1
theorem sown_184 {Φ : oz_C} {A : oz_Y} (hC : oz_Cl t_L_sown Φ A) {S : St} {b p N0 F u : Nat} (hS : StOk S) (hp : p < sN S) (hl : lg (sN S) (sEx S) (sC S) p = 1) (hh : hw (sN S) (sEx S) (sC S) = 0) (hb : 44 ≤ b) (hu : u ≤ 14) (dn : ∀ (W : Wd) (N : Nat) (G : oz_G) (R : oz_R) (J : oz_J), N0 ≤ N → CR N G R W → wOk W → Φ (some (.int (nI 1))) N G R J) {W : Wd} (e : wS W = S) (v3 v10 v11 v12 v13 v14 : Option Value) : ∀ f c' la k (N : Nat) (G : oz_G) (R : oz_R) (J : oz_J) (v9 : Option Value), N0 ≤ N → b + 1 < N → CR N G R W → wOk W → ArH b (sN S) c' (sC S) G → Iv (sN S) F u c' → la < sN S → 0 < dg c' la → mu (sN S) c' la < f → mk (sN S) (sRl S) f c' la k = mv (sN S) (sRl S) (sC S) p → A 184 [some (.ref 0), some (.int (nI p)), some (.int (nI (sN S))), v3, some (.ref b), some (.ref (b + 1)), some (.int (nI la)), some (.int (nI k)), some (.int (nI 1)), v9, v10, v11, v12, v13, v14] [] N G R J 16 := by
  intro f
  have hn6 := hS.2.1
  have hrl := hS.2.2.1
  induction f with
  | zero => intro c' la k N G R J v9 _ _ _ _ _ _ _ _ hm; omega
  | succ f ih =>
    intro c' la k N G R J v9 hN hbN c0 ok hA hIv hla hdl hm hmk
    obtain ⟨a1, a2, a3, a4, a5, a6⟩ := lp_ok hIv hu hn6 hla hdl
    have hle := sm_le c' (sN S + 1) la (by omega)
    rw [hIv.2] at hle
    have hlen := ok.2.2.2.2
    have kb : oz_k b = 6 ∧ b < N := ⟨ar_k hb, by omega⟩
    have lb : ∀ j, j ≤ sN S → j < oz_l b := fun j hj => by rw [ar_l hb]; omega
    have inner : ∀ m q la' th (G3 : oz_G), la' ≤ sN S → dl (sN S) m q la' th = lp (sN S) c' la → Iv (sN S) F (u - m) q → m ≤ u → CR N G3 R W → ArH b (sN S) q (sC S) G3 → A 202 [some (.ref 0), some (.int (nI p)), some (.int (nI (sN S))), v3, some (.ref b), some (.ref (b + 1)), some (.int (nI la')), some (.int (nI k)), some (.int (nI 1)), some (.int (nI m)), v10, v11, v12, v13, v14] [] N G3 R J 16 := by
      intro m
      induction m with
      | zero =>
        intro q la' th G3 hla' hdlp hq _ c3 g2
        have hlp : lp (sN S) c' la = (q, la', th) := hdlp.symm
        rw [hlp] at a1 a2 a3 a4 a5 a6
        have a4 : dg q la' = th + 1 := a4
        have a6 : la' ≠ sN S → mu (sN S) q la' < mu (sN S) c' la := a6
        have hmk : (if (lp (sN S) c' la).2.1 ≠ sN S ∧ 0 < (lp (sN S) c' la).2.2 ∧ sRl S = 1 then mk (sN S) (sRl S) f (lp (sN S) c' la).1 (lp (sN S) c' la).2.1 (k + 1) else ((lp (sN S) c' la).1, (lp (sN S) c' la).2.1, k + 1)) = mv (sN S) (sRl S) (sC S) p := hmk
        rw [hlp] at hmk
        have hmk : (if la' ≠ sN S ∧ 0 < th ∧ sRl S = 1 then mk (sN S) (sRl S) f q la' (k + 1) else (q, la', k + 1)) = mv (sN S) (sRl S) (sC S) p := hmk
        have no : ¬ (la' ≠ sN S ∧ 0 < th ∧ sRl S = 1) → ∀ (N4 : Nat) (G4 : oz_G) (R4 : oz_R) (J4 : oz_J), Rn N G3 W N4 G4 R4 → A 184 [some (.ref 0), some (.int (nI p)), some (.int (nI (sN S))), v3, some (.ref b), some (.ref (b + 1)), some (.int (nI la')), some (.int (nI k + nI 1)), some (.int (nI 0)), some (.int (nI 0)), v10, v11, v12, v13, v14] [] N4 G4 R4 J4 16 := fun z N4 G4 R4 J4 s4 => by
          rw [if_neg z] at hmk
          have eM : sMd S p = q := by show (mv _ _ _ _).1 = _; rw [← hmk]
          have eA : sAt S p = la' := by show (mv _ _ _ _).2.1 = _; rw [← hmk]
          have eL : sLp S p = k + 1 := by show (mv _ _ _ _).2.2 = _; rw [← hmk]
          have hx : SwX S b p N4 G4 := ⟨hS, hb, Nat.lt_of_lt_of_le hbN s4.1, by rw [eM]; exact ArH_fr hb g2 s4, hp, hl, hh⟩
          have hf := sown_276 hC hx (fun W' N' G' R' J' h1 => dn W' N' G' R' J' (by have := s4.1; omega)) e (J := J4) (Rn_0 s4.2.2.1 s4.2.2.2) v3 (some (.int (nI 0))) v10 v11 v12 v13 v14
          rw [eA, eL, ← nI_add k 1] at hf
          exact hC.1 [276] 30 184 _ _ _ _ _ _ _ ⟨fun _ => hf, fun z => absurd rfl z⟩
        have yes : (la' ≠ sN S ∧ 0 < th ∧ sRl S = 1) → ∀ (N4 : Nat) (G4 : oz_G) (R4 : oz_R) (J4 : oz_J), Rn N G3 W N4 G4 R4 → A 184 [some (.ref 0), some (.int (nI p)), some (.int (nI (sN S))), v3, some (.ref b), some (.ref (b + 1)), some (.int (nI la')), some (.int (nI k + nI 1)), some (.int (nI 1)), some (.int (nI 0)), v10, v11, v12, v13, v14] [] N4 G4 R4 J4 16 := fun z N4 G4 R4 J4 s4 => by
          rw [if_pos z] at hmk
          have := a6 z.1
          have hf := ih q la' (k + 1) N4 G4 R4 J4 (some (.int (nI 0))) (Nat.le_trans hN s4.1) (Nat.lt_of_lt_of_le hbN s4.1) s4.2.2.1 ok (ArH_fr hb g2 s4) a1 (by omega) (by omega) (by omega) hmk
          rw [← nI_add k 1] at hf
          exact hf
        refine hC.1 [184] 90 202 _ _ _ _ _ _ _ ⟨fun _ => ⟨fun z => no (fun y => ?_) _ _ _ _ (Rn_0 c3 ok), fun z => ⟨kb, la', rfl, lb la' hla', fun z2 => no (fun y => ?_) _ _ _ _ (Rn_0 c3 ok), fun z2 => ctK (qc 9 (by decide)) (Rn_0 c3 ok) fun N4 G4 R4 J4 s4 => ⟨fun z3 => no (fun y => ?_) _ _ _ _ s4, fun z3 => yes ?_ _ _ _ _ s4⟩⟩⟩, fun z => absurd (show nI 0 ≤ 0 by decide) z⟩
        · have z : nI (sN S) ≤ nI la' := z
          rw [nI_leI (by omega) (by omega)] at z
          omega
        · have z2 : G3 b la' ≤ nI 1 := z2
          have hd2 := dg_lt q la'
          rw [(g2 la' hla').1, nI_leI (by omega) (by decide)] at z2
          omega
        · have z3 : ¬ nI (sRl (wS W)) = nI 1 := z3
          rw [e, nI_eq (by omega) (by decide)] at z3
          exact z3 y.2.2
        · have z : ¬ nI (sN S) ≤ nI la' := z
          rw [nI_leI (by omega) (by omega)] at z
          have z2 : ¬ G3 b la' ≤ nI 1 := z2
          have hd2 := dg_lt q la'
          rw [(g2 la' hla').1, nI_leI (by omega) (by decide)] at z2
          have z3 : ¬ ¬ nI (sRl (wS W)) = nI 1 := z3
          have z3 := Classical.not_not.mp z3
          rw [e, nI_eq (by omega) (by decide)] at z3
          exact ⟨by omega, by omega, z3⟩
      | succ m ihm =>
        intro q la' th G3 hla' hdlp hq hmu c3 g2
        obtain ⟨la2, hla2⟩ : ∃ z, z = nx (sN S) la' := ⟨_, rfl⟩
        have hl2n : la2 ≤ sN S := by rw [hla2]; exact nx_le
        obtain ⟨h1, hdg⟩ := Iv_add hq (show u - (m + 1) < 14 by omega) hl2n
        have hdlp : dl (sN S) m (q + 16 ^ nx (sN S) la') (nx (sN S) la') (dg q (nx (sN S) la')) = lp (sN S) c' la := hdlp
        rw [← hla2] at hdlp
        rw [show u - (m + 1) + 1 = u - m by omega] at h1
        have hih := ihm (q + 16 ^ la2) la2 (dg q la2) (oz2 G3 b la2 (G3 b la2 + nI 1)) hl2n hdlp h1 (by omega) (CR_ar c3 hlen (Nat.le_refl _) (fun i hi => oz2_row (by omega))) (ArH_st g2 (by rw [(g2 la2 hl2n).1, nI_add, hdg, if_pos rfl]) (fun i hi hne => by rw [hdg, if_neg hne]))
        rw [show nI m = nI (m + 1) + oz_c (-1) from (pk_m1 m).symm] at hih
        refine hC.1 [202] 90 202 _ _ _ _ _ _ _ ⟨fun z => absurd z (nI_nle (by omega) (by omega)), fun _ => ⟨fun z => ?_, fun z => ?_⟩⟩
        · have z : ¬ nI la' = nI (sN S) := z
          rw [nI_eq (by omega) (by omega)] at z
          have e2 : la2 = la' + 1 := by rw [hla2]; unfold nx; rw [if_neg (by omega)]
          have e3 : nI la' + nI 1 = nI la2 := by rw [nI_add, e2]
          rw [← e3] at hih
          exact ⟨kb, la2, e3, lb la2 hl2n, kb, la2, e3, lb la2 hl2n, hih⟩
        · have z : ¬ ¬ nI la' = nI (sN S) := z
          have z := Classical.not_not.mp z
          rw [nI_eq (by omega) (by omega)] at z
          have e2 : la2 = 0 := by rw [hla2]; unfold nx; rw [if_pos (by omega)]
          subst e2
          exact ⟨kb, 0, rfl, lb 0 (by omega), kb, 0, rfl, lb 0 (by omega), hih⟩
    have h0 := inner (dg c' la) (c' - dg c' la * 16 ^ la) la 0 (oz2 G b la (nI 0)) (by omega) rfl (Iv_sub hIv (by omega)) hle (CR_ar c0 hlen (Nat.le_refl _) (fun i hi => oz2_row (by omega))) (ArH_st hA (by rw [dg_sub0, if_pos rfl]) (fun i hi hne => by rw [dg_sub0, if_neg hne]))
    rw [← (hA la (by omega)).1] at h0
    exact hC.1 [202] 60 184 _ _ _ _ _ _ _ ⟨fun z => absurd z (show ¬ nI 1 = nI 0 by decide), fun _ => ⟨kb, la, rfl, lb la (by omega), kb, la, rfl, lb la (by omega), h0⟩⟩
theorem sown_128 {Φ : oz_C} {A : oz_Y} (hC : oz_Cl t_L_sown Φ A) {S : St} {b p N0 : Nat} (hp : p < sN S) (hl : lg (sN S) (sEx S) (sC S) p = 1) (hh : hw (sN S) (sEx S) (sC S) = 0) (hb : 44 ≤ b) (dn : ∀ (W : Wd) (N : Nat) (G : oz_G) (R : oz_R) (J : oz_J), N0 ≤ N → CR N G R W → wOk W → Φ (some (.int (nI 1))) N G R J) {W : Wd} (e : wS W = S) (ok : wOk W) (v3 v7 v8 v9 v10 v11 v12 v13 v14 : Option Value) : ∀ f i, i + f = sN S + 1 → ∀ (N : Nat) (G : oz_G) (R : oz_R) (J : oz_J), N0 ≤ N → b + 1 < N → CR N G R W → (∀ j, j < i → G b j = nI (dg (sC S) j) ∧ G (b + 1) j = nI (dg (sC S) j)) → A 128 [some (.ref 0), some (.int (nI p)), some (.int (nI (sN S))), v3, some (.ref b), some (.ref (b + 1)), some (.int (nI i)), v7, v8, v9, v10, v11, v12, v13, v14] [] N G R J 16 := by
  subst e
  have hS := ok.1
  have h6 := hS.2.1
  obtain ⟨u, hu0, hg, hK⟩ := hS.2.2.2.2.2
  intro f
  induction f with
  | zero =>
    intro i hi N G R J hN hbN c0 hA
    have hd := (lg_e hl).2
    refine hC.1 [184] 60 128 _ _ _ _ _ _ _ ⟨fun _ => ?_, fun q => absurd (nI_lt (show sN (wS W) < i by omega) (by omega)) q⟩
    exact sown_184 hC hS hp hl hh hb hg.2.1 dn rfl _ _ _ _ _ _ 1000 (sC (wS W)) p 0 N G R J _ hN hbN c0 ok (fun j hj => hA j (by omega)) hg.1 hp hd mu_lt rfl
  | succ f ih =>
    intro i hi N G R J hN hbN c0 hA
    have hlen := ok.2.2.2.2
    have a158 : ∀ (N2 : Nat) (G2 : oz_G) (R2 : oz_R) (J2 : oz_J), Rn N G W N2 G2 R2 → A 158 [some (.ref 0), some (.int (nI p)), some (.int (nI (sN (wS W)))), v3, some (.ref b), some (.ref (b + 1)), some (.int (nI i)), v7, v8, v9, v10, v11, v12, v13, v14] [.int (nI (dg (sC (wS W)) i)), .int (nI i), .ref b] N2 G2 R2 J2 16 := fun N2 G2 R2 J2 s2 => by
      have kb : oz_k b = 6 ∧ b < N2 := ⟨ar_k hb, by have := s2.1; omega⟩
      have kc : oz_k (b + 1) = 6 ∧ b + 1 < N2 := ⟨ar_k (by omega), by have := s2.1; omega⟩
      have lb : i < oz_l b := by rw [ar_l hb]; omega
      have lc : i < oz_l (b + 1) := by rw [ar_l (by omega)]; omega
      have hih := ih (i + 1) (by omega) N2 (oz2 (oz2 G2 b i (nI (dg (sC (wS W)) i))) (b + 1) i (oz2 G2 b i (nI (dg (sC (wS W)) i)) b i)) R2 J2 (Nat.le_trans hN s2.1) kc.2 (CR_ar s2.2.2.1 hlen (Nat.le_refl _) (fun a ha => by rw [oz2_row (by omega), oz2_row (by omega)])) (fun j hj => by
        by_cases z : j = i
        · rw [z]
          refine ⟨?_, ?_⟩
          · rw [oz2_row (a := b) (by omega), oz2_self]
          · rw [oz2_self, oz2_self]
        · rw [oz2_ne z, oz2_row (a := b) (by omega), oz2_ne z, oz2_row (by omega), s2.2.1 b hb (by omega), s2.2.1 (b + 1) (by omega) (by omega)]
          exact hA j (by omega))
      rw [← nI_add i 1] at hih
      exact hC.1 [128] 60 158 _ _ _ _ _ _ _ ⟨kb, i, rfl, lb, kb, i, rfl, lb, kc, i, rfl, lc, hih⟩
    refine hC.1 [158] 60 128 _ _ _ _ _ _ _ ⟨fun q => absurd q (nI_nlt (show i ≤ sN (wS W) by omega) (by omega)), fun _ => ⟨fun q => ctK (qc 1 (by decide)) (Rn_0 c0 ok) fun N2 G2 R2 J2 s2 => ?_, fun q => ptK (qp ok ?_) (Rn_0 c0 ok) fun N2 G2 R2 J2 s2 => a158 N2 G2 R2 J2 s2⟩⟩
    · have q : nI (sN (wS W)) ≤ nI i := q
      rw [nI_leI (by omega) (by omega)] at q
      have hin : sN (wS W) = i := by omega
      have hf := a158 N2 G2 R2 J2 s2
      have hv : (nI (dg (sC (wS W)) (sN (wS W)))) = nI (dg (sC (wS W)) i) := by rw [hin]
      rw [← hv] at hf
      exact hf
    · have q : ¬ nI (sN (wS W)) ≤ nI i := q
      rw [nI_leI (by omega) (by omega)] at q
      omega
theorem I_L_sown : oz_Imp t_L_sown 15 s_L_sown := by
  intro Φ A a N G R J hN hS hC
  obtain ⟨x, rfl, W, p, c0, ok, rfl, hp, dn⟩ := oz_t1_e hS
  have h6 := ok.1.2.1
  have hN : 44 ≤ N := hN
  have hlen := ok.2.2.2.2
  have hcs := hw_c (wS W)
  have a64 : ∀ (N1 : Nat) (G1 : oz_G) (R1 : oz_R) (J1 : oz_J), Rn N G W N1 G1 R1 → p < sN (wS W) → lg (sN (wS W)) (sEx (wS W)) (sC (wS W)) p = 0 → A 64 [some (.ref 0), some (.int (nI p)), some (.int (nI (sN (wS W)))), some (.int (nI (hw (sN (wS W)) (sEx (wS W)) (sC (wS W))))), none, none, none, none, none, none, none, none, none, none, none] [] N1 G1 R1 J1 0 := fun N1 G1 R1 J1 s1 hpn hl =>
    hC.1 [] 90 64 _ _ _ _ _ _ _ (swK (qs_5 ok hpn hl) s1 fun N2 G2 R2 J2 s2 => ⟨fun z => absurd rfl z, fun _ => ifK (qi_5 ok hpn (by decide) hl) s2 fun N3 G3 R3 J3 s3 => ⟨fun z => absurd rfl z, fun _ => ihK (qh_5 ok hpn (Nat.zero_le _) hl) s3 fun N4 G4 R4 J4 s4 => ⟨fun z => absurd rfl z, fun _ => ifK (qi_2 ok hpn) s4 fun N5 G5 R5 J5 s5 => ⟨fun z => absurd rfl z, fun _ => ⟨Or.inr rfl, dn W N5 G5 R5 J5 s5.1 s5.2.2.1 ok⟩⟩⟩⟩⟩)
  have a113 : ∀ (N1 : Nat) (G1 : oz_G) (R1 : oz_R) (J1 : oz_J), Rn N G W N1 G1 R1 → p < sN (wS W) → lg (sN (wS W)) (sEx (wS W)) (sC (wS W)) p = 1 → hw (sN (wS W)) (sEx (wS W)) (sC (wS W)) = 0 → A 113 [some (.ref 0), some (.int (nI p)), some (.int (nI (sN (wS W)))), some (.int (nI (hw (sN (wS W)) (sEx (wS W)) (sC (wS W))))), none, none, none, none, none, none, none, none, none, none, none] [] N1 G1 R1 J1 0 := fun N1 G1 R1 J1 s1 hpn hl hh => by
    have h44 : 44 ≤ N1 := Nat.le_trans hN s1.1
    have hf := sown_128 hC hpn hl hh h44 (N0 := N) (fun W' N' G' R' J' => dn W' N' G' R' J') rfl ok (some (.int (nI (hw (sN (wS W)) (sEx (wS W)) (sC (wS W)))))) none none none none none none none none (sN (wS W) + 1) 0 (by omega) (N1 + 1 + 1) (ozz (ozz G1 N1 0) (N1 + 1) 0) R1 J1 (by have := s1.1; omega) (by omega) (CR_ar s1.2.2.1 hlen (by omega) (fun i hi => by rw [ozz_row (by omega), ozz_row (by omega)])) (fun j hj => absurd hj (Nat.not_lt_zero _))
    exact hC.1 [128] 60 113 _ _ _ _ _ _ _ ⟨7, rfl, ⟨ar_k h44, ar_l h44, by decide⟩, 7, rfl, ⟨ar_k (by omega), ar_l (by omega), by decide⟩, hf⟩
  refine hC.1 [64, 113] 90 0 _ _ _ _ _ _ _ (ctK (qc 0 (by decide)) (Rn_0 c0 ok) fun N1 G1 R1 J1 s1 => ctK (qc 3 (by decide)) s1 fun N2 G2 R2 J2 s2 => ⟨fun q => ⟨fun q2 => a64 N2 G2 R2 J2 s2 ?_ ?_, fun q2 => csK ?_ s2 fun N3 G3 R3 J3 s3 => ⟨fun z => a113 N3 G3 R3 J3 s3 ?_ ?_ ?_, fun z => a64 N3 G3 R3 J3 s3 ?_ (lg_cb ?_)⟩⟩, fun q => swK (qs_1 ok ?_ hp) s2 fun N3 G3 R3 J3 s3 => ⟨fun z => absurd rfl z, fun _ => ifK (qi_1 ok ?_ hp) s3 fun N4 G4 R4 J4 s4 => ⟨fun z => absurd rfl z, fun _ => ihK (qh_1 ok ?_ hp) s4 fun N5 G5 R5 J5 s5 => ⟨fun z => absurd rfl z, fun _ => ⟨Or.inr rfl, dn W N5 G5 R5 J5 s5.1 s5.2.2.1 ok⟩⟩⟩⟩⟩)
  all_goals first
    | have q : nI p < nI (sN (wS W)) := q
      rw [nI_ltI (by omega) (by omega)] at q
    | have q : ¬ nI p < nI (sN (wS W)) := q
      rw [nI_ltI (by omega) (by omega)] at q
  all_goals try omega
  · have q2 : ¬ nI (hw (sN (wS W)) (sEx (wS W)) (sC (wS W))) = nI 0 := q2
    rcases hcs with ⟨e, e2⟩ | ⟨e, e1, e2⟩ | ⟨e, e1, e3, e2⟩ | ⟨e, e1⟩
    · exact ms_0 _ q e2
    · exact ms_0 _ q e2
    · exact ms_0 _ q e2
    · exact absurd (by rw [e]) q2
  · have q2 : ¬ ¬ nI (hw (sN (wS W)) (sEx (wS W)) (sC (wS W))) = nI 0 := q2
    have q2 := Classical.not_not.mp q2
    have hwl := hw_le (n := sN (wS W)) (ex := sEx (wS W)) (c := sC (wS W))
    rw [nI_eq (by omega) (by decide)] at q2
    have z : ¬ nI (cb (wS W) p) = nI 0 := z
    have hl : lo (sC (wS W)) = 0 := by
      rcases hcs with ⟨e, e2⟩ | ⟨e, e1, e2⟩ | ⟨e, e1, e3, e2⟩ | ⟨e, e1, e3, e4, e5⟩
      · omega
      · omega
      · omega
      · exact e5
    rw [← cb_lg hl]
    have := cb_le (S := wS W) (i := p)
    rcases Nat.eq_zero_or_pos (cb (wS W) p) with y | y
    · exact absurd (by rw [y]) z
    · omega
  · have q2 : ¬ ¬ nI (hw (sN (wS W)) (sEx (wS W)) (sC (wS W))) = nI 0 := q2
    have q2 := Classical.not_not.mp q2
    have hwl := hw_le (n := sN (wS W)) (ex := sEx (wS W)) (c := sC (wS W))
    rw [nI_eq (by omega) (by decide)] at q2
    exact q2
  · have z : ¬ ¬ nI (cb (wS W) p) = nI 0 := z
    have z := Classical.not_not.mp z
    have := cb_le (S := wS W) (i := p)
    rw [nI_eq (by omega) (by decide)] at z
    exact z
