/-! the class's public methods: undo, restore, best, play -/
theorem StOk_20 {S : St} (h : StOk S) : (sK S).length ≤ 16 := by
  obtain ⟨-, -, -, -, -, u, hu, hg, hK⟩ := h
  have := KOk_len _ _ hg hK
  omega
def q_undo (W : Wd) : Int32 × Wd := match wH W with
  | [] => (oz_c (-5), W)
  | S :: H => (nI H.length, (S, H, w0 W, w1 W, wP W, wL W))
def t_X5_undo : oz_T := (P_X5_undo, e_X5, [(190, 1, 2, 0, s_X4_copyFrom)], (true, 58, none, false, 0), (0, fun _ => 0))
def s_X5_undo : oz_S := oz_t0 0 fun N G R J Φ => ∃ W, CR N G R W ∧ wOk W ∧ pQ N G W Φ (q_undo W)
theorem I_X5_undo : oz_Imp t_X5_undo 1 s_X5_undo := by
  intro Φ A a N G R J hN hS hC
  obtain ⟨rfl, W, hCR, hok, h⟩ := oz_t0_e hS
  obtain ⟨S0, H, s0, s1, w, len⟩ := W
  obtain ⟨hi, sl, rfl, hh, hs, hSt, hl, hH, h0, h1, hP⟩ := id hCR
  have hN58 := hs.2.2.1
  unfold q_undo at h
  cases H with
  | nil =>
    have e : G 0 2 = nI 0 := hl
    exact hC.1 [] 30 0 _ _ _ _ _ _ _ ⟨fun q => absurd (show nI 0 < G 0 2 from q) (by rw [e]; decide), fun _ => pQ_0 h hCR⟩
  | cons S H =>
    have e : G 0 2 = nI (H.length + 1) := hl
    have hlen : H.length + 1 ≤ 6 := hok.2.2.2.2
    have hS : StOk S := hok.2.1 S List.mem_cons_self
    have h20 := StOk_20 hS
    have hb := hh.1 H.length (by omega)
    have e2 : G 0 2 - nI 1 = nI H.length := by rw [e, pk_sub (by omega)]; rfl
    have hH2 : HsR G hi H := hH.2
    have hSr : StR G (hi H.length) S := hH.1
    have far : ∀ i, 5 < i → cpS (oz2 G 0 2 (nI H.length)) 1 (hi H.length) i = G i := fun i a1 => by rw [cpS_o (by omega), oz2_row (by omega)]
    have hC2 : CR N (cpS (oz2 G 0 2 (nI H.length)) 1 (hi H.length)) (rmR hi sl) (S, H, s0, s1, w, len) :=
      ⟨hi, sl, rfl, hh, hs, cpS_R (S := S) (by omega) (StR_fr (fun i a1 a2 => oz2_row (by omega)) hSr), by rw [cpS_o (by omega), oz2_self]; rfl, HsR_fr hh (fun i a1 a2 => far i (by omega)) H (by omega) hH2, SlR_fr hs (fun i a1 a2 => far i (by omega)) (by decide) h0, SlR_fr hs (fun i a1 a2 => far i (by omega)) (by decide) h1, PdC_fr (by rw [far 8 (by omega)]) (by rw [far 9 (by omega)]) hP⟩
    have hf := h N _ _ J (Nat.le_refl _) hC2 (fun i a1 a2 => far i (by omega))
    have hf : Φ (some (.int (nI H.length))) N (cpS (oz2 G 0 2 (nI H.length)) 1 (hi H.length)) (rmR hi sl) J := hf
    have e3 : cpS (oz2 G 0 2 (nI H.length)) 1 (hi H.length) 0 2 = nI H.length := by rw [cpS_o (by omega), oz2_self]
    have hf : Φ (some (.int (cpS (oz2 G 0 2 (nI H.length)) 1 (hi H.length) 0 2))) N (cpS (oz2 G 0 2 (nI H.length)) 1 (hi H.length)) (rmR hi sl) J := by rw [e3]; exact hf
    have a20 : A 20 [some (.ref 0)] [] N (oz2 G 0 2 (nI H.length)) (rmR hi sl) J 0 :=
      hC.1 [] 60 20 _ _ _ _ _ _ _ ⟨H.length, rfl, by show _ < 6; omega, Stc_1 hN58, Stc_h hN58 hb, Or.inl (show (1 : Nat) + 4 < hi H.length by omega), hf⟩
    rw [← e2] at a20
    exact hC.1 [20] 60 0 _ _ _ _ _ _ _ ⟨fun _ => a20, fun q => absurd (show nI 0 < G 0 2 by rw [e]; exact nI_lt (by omega) (by omega)) q⟩
def wSl (W : Wd) (k : Nat) : Option St := if k = 0 then w0 W else w1 W
def q_restore (W : Wd) (x : Int32) : Int32 × Wd := if x < 0 ∨ nI 2 ≤ x then (oz_c (-2), W) else match wSl W (nt x) with
  | none => (oz_c (-5), W)
  | some S => (nI (dg (sC S) (sN S)), wRec W S)
def t_X5_restore : oz_T := (P_X5_restore, e_X5, [(58, 1, 1, 0, s_X5_record), (190, 1, 2, 0, s_X4_copyFrom), (129, 1, 1, 0, s_X4_store)], (true, 58, none, false, 0), (0, fun _ => 0))
def s_X5_restore : oz_S := oz_t1 0 fun x N G R J Φ => ∃ W, CR N G R W ∧ wOk W ∧ pQ N G W Φ (q_restore W x)
theorem wSl_ok {W : Wd} (h : wOk W) {k : Nat} {S : St} (e : wSl W k = some S) : StOk S := by
  unfold wSl at e
  split at e
  · exact h.2.2.1 S e
  · exact h.2.2.2.1 S e
theorem wSl_R {G : oz_G} {sl : Nat → Option Nat} {W : Wd} (h0 : SlR G sl (w0 W) 0) (h1 : SlR G sl (w1 W) 1) {k : Nat} (hk : k < 2) : SlR G sl (wSl W k) k := by
  have hk : k = 0 ∨ k = 1 := by omega
  rcases hk with rfl | rfl
  · exact h0
  · exact h1
theorem I_X5_restore : oz_Imp t_X5_restore 2 s_X5_restore := by
  intro Φ A a N G R J hN hS hC
  obtain ⟨x, rfl, W, hCR, hok, h⟩ := oz_t1_e hS
  obtain ⟨hi, sl, rfl, hh, hs, hSt, hl, hH, h0, h1, hP⟩ := id hCR
  have hN58 := hs.2.2.1
  unfold q_restore at h
  have a9 : (x < 0 ∨ nI 2 ≤ x) → A 9 [some (.ref 0), some (.int x)] [] N G (rmR hi sl) J 0 := fun q => by
    rw [if_pos q] at h
    exact hC.1 [] 20 9 _ _ _ _ _ _ _ (pQ_0 h hCR)
  have a12 : ¬ (x < 0 ∨ nI 2 ≤ x) → A 12 [some (.ref 0), some (.int x)] [] N G (rmR hi sl) J 0 := fun q => by
    rw [if_neg q] at h
    obtain ⟨hx, hk⟩ := rng2 (x := x) (b := 2) (fun z => q (Or.inl z)) (fun z => q (Or.inr z)) (by decide)
    generalize nt x = k at hx hk h
    clear q a9
    subst hx
    have hR := wSl_R h0 h1 hk
    cases e : wSl W k with
    | none =>
      rw [e] at h hR
      have hR : sl k = none := hR
      have a18 : A 18 [some (.ref 0), some (.int (nI k))] [va_rf (sl k)] N G (rmR hi sl) J 0 := by
        rw [hR]
        exact hC.1 [] 30 18 _ _ _ _ _ _ _ (pQ_0 h hCR)
      exact hC.1 [18] 30 12 _ _ _ _ _ _ _ ⟨k, rfl, hk, a18⟩
    | some S =>
      rw [e] at h hR
      obtain ⟨b, hR, -⟩ := hR
      have hSok := wSl_ok hok e
      have a24 : A 24 [some (.ref 0), some (.int (nI k))] [] N G (rmR hi sl) J 0 := by
        refine hC.1 [28] 40 24 _ _ _ _ _ _ _ ⟨W, hCR, hok, fun G' R' c1 c2 c3 => ?_⟩
        obtain ⟨hi', sl', rfl, hh', hs', hSt', hl', hH', h0', h1', hP'⟩ := id c1
        have hR' := wSl_R (W := wPsh W) h0' h1' hk
        rw [show wSl (wPsh W) k = some S from e] at hR'
        obtain ⟨b', hb', hSb⟩ := hR'
        obtain ⟨n1, n2, n3⟩ := hs'.1 k b' hk hb'
        have h20 := StOk_20 hSok
        have hlen := (psh_len (S := wS W) hok.2.2.2.2).1
        have hSt2 : StR (cpS G' 1 b') 1 S := cpS_R (by omega) hSb
        have c4 := CR_now c1 hlen hSt2 (fun i hi => cpS_o (by omega))
        have hf := h N _ _ J (Nat.le_refl _) c4 (fun i a1 a2 => by rw [cpS_o (by omega)]; exact c2 i a1 a2)
        obtain ⟨u, hu, hg, hK⟩ := hSok.2.2.2.2.2
        have hc := Gd_lt hg
        have hn6 := hSok.2.1
        have e5 : rw_at (cpS G' 1 b' 1 2) (cpS G' 1 b' 1 1) = nI (dg (sC S) (sN S)) := by rw [hSt2.1, hSt2.2.1]; exact rw_at_n (by omega) (by omega)
        have hf : Φ (some (.int (nI (dg (sC S) (sN S))))) N (cpS G' 1 b') (rmR hi' sl') J := hf
        rw [← e5] at hf
        have a38 : A 38 [some (.ref 0), some (.int (nI k))] [va_rf (sl' k), .ref 1] N G' (rmR hi' sl') J 0 := by
          rw [hb']
          exact hC.1 [] 40 38 _ _ _ _ _ _ _ ⟨Stc_1 hN58, Stc_b ⟨n1, n2, n3⟩, Or.inl (show (1 : Nat) + 4 < b' by omega), hf⟩
        exact hC.1 [38] 40 28 _ _ _ _ _ _ _ ⟨k, rfl, hk, a38⟩
      have a18 : A 18 [some (.ref 0), some (.int (nI k))] [va_rf (sl k)] N G (rmR hi sl) J 0 := by
        rw [hR]
        exact hC.1 [24] 30 18 _ _ _ _ _ _ _ a24
      exact hC.1 [18] 30 12 _ _ _ _ _ _ _ ⟨k, rfl, hk, a18⟩
  exact hC.1 [9, 12] 30 0 _ _ _ _ _ _ _ ⟨fun q => a9 (Or.inl q), fun q => ⟨fun q2 => a12 (fun z => z.elim q (fun z => Int32.not_lt.mpr z q2)), fun q2 => a9 (Or.inr (Int32.not_lt.mp q2))⟩⟩
theorem nd_le {α : Type} [BEq α] [LawfulBEq α] : ∀ (L M : List α), L.Nodup → (∀ x, x ∈ L → x ∈ M) → L.length ≤ M.length
  | [], M, _, _ => Nat.zero_le _
  | x :: L, M, hL, h => by
    obtain ⟨h1, h2⟩ := List.nodup_cons.mp hL
    have hx := h x List.mem_cons_self
    have := nd_le L (M.erase x) h2 (fun y hy => (List.mem_erase_of_ne (fun (z : y = x) => h1 (by rw [← z]; exact hy))).mpr (h y (List.mem_cons_of_mem _ hy)))
    rw [List.length_erase_of_mem hx] at this
    have hp : 0 < M.length := List.length_pos_of_mem hx
    rw [List.length_cons]
    omega
/-- how many positions can come, that one among them, none of them lost -/
noncomputable def fnd (n rl ex c : Nat) : Nat := if lo c = 1 then 0 else @dite Nat (∃ L : List Nat, L.Nodup ∧ ∀ x, x ∈ L ↔ Rch n rl ex c x) (Classical.propDecidable _) (fun h => h.choose.length) (fun _ => 0)
theorem fnd_eq {n rl ex c : Nat} {L : List Nat} (h0 : lo c = 0) (h1 : L.Nodup) (h2 : ∀ x, x ∈ L ↔ Rch n rl ex c x) : fnd n rl ex c = L.length := by
  have hex : ∃ L : List Nat, L.Nodup ∧ ∀ x, x ∈ L ↔ Rch n rl ex c x := ⟨L, h1, h2⟩
  unfold fnd
  rw [if_neg (by omega), dif_pos hex]
  obtain ⟨a1, a2⟩ := hex.choose_spec
  exact Nat.le_antisymm (nd_le _ _ a1 (fun x hx => (h2 x).mpr ((a2 x).mp hx))) (nd_le _ _ h1 (fun x hx => (a2 x).mpr ((h2 x).mp hx)))
theorem tab_all {n rl ex u c0 : Nat} {lw mo fe : Nat → Nat} {L : List Nat} (h : Tab n rl ex u c0 lw mo fe L []) (hc : c0 ∈ L) (x : Nat) : x ∈ L ↔ Rch n rl ex c0 x := by
  refine ⟨fun hx => (h.2.1 x hx).2.2, fun ⟨d, hd⟩ => ?_⟩
  have key : ∀ d x, Rk n rl ex c0 d x → x ∈ L := by
    intro d
    induction d with
    | zero => intro x hx; rw [show x = c0 from hx]; exact hc
    | succ d ih =>
      intro x hx
      obtain ⟨c, i, h1, h2, h3, rfl, h5⟩ := hx
      exact (h.2.2.2.2.2.2 c (ih c h1) List.not_mem_nil).2.2 i h2 h3 h5
  exact key d x hd
noncomputable def sBst (S : St) (x : Int32) : Int32 := if x = nI 0 then nI (mf (sN S) (sRl S) (sEx S) (sC S)) else if x = nI 1 then fm (sN S) (sRl S) (sEx S) (sC S) else if x = nI 2 then nI (fnd (sN S) (sRl S) (sEx S) (sC S)) else ff (sN S) (sRl S) (sEx S) (sC S)
noncomputable def q_best (W : Wd) (x : Int32) : Int32 × Wd := (if x < nI 0 ∨ nI 3 < x then oz_c (-2) else sBst (wS W) x, W)
def sHb (S : St) : Prop := Hb (sN S) (sRl S) (sEx S) (sC S)
def t_X5_best : oz_T := (P_X5_best, e_X5, [(121, 1, 2, 0, s_X2_explore), (125, 1, 3, 0, s_X2_mostFrom), (132, 1, 3, 0, s_X2_firstMove), (180, 1, 2, 0, s_X2_fewestFrom)], (true, 58, none, false, 0), (0, fun _ => 0))
def s_X5_best : oz_S := oz_t1 0 fun x N G R J Φ => ∃ W, CR N G R W ∧ wOk W ∧ sHb (wS W) ∧ pQ N G W Φ (q_best W x)
theorem I_X5_best : oz_Imp t_X5_best 2 s_X5_best := by
  intro Φ A a N G R J hN hS hC
  obtain ⟨x, rfl, W, hCR, hok, hHb, h⟩ := oz_t1_e hS
  obtain ⟨hi, sl, rfl, hh, hs, hSt, -⟩ := id hCR
  obtain ⟨u, hu, hg, hK⟩ := hok.1.2.2.2.2.2
  have hev := StR_Ev hSt hok.1
  have hlo := lo_le (c := sC (wS W))
  unfold q_best at h
  have a9 : (x < nI 0 ∨ nI 3 < x) → A 9 [some (.ref 0), some (.int x)] [] N G (rmR hi sl) J 0 := fun q => by
    rw [if_pos q] at h
    exact hC.1 [] 20 9 _ _ _ _ _ _ _ (pQ_0 h hCR)
  have a12 : ¬ (x < nI 0 ∨ nI 3 < x) → A 12 [some (.ref 0), some (.int x)] [] N G (rmR hi sl) J 0 := fun q => by
    rw [if_neg q] at h
    refine hC.1 [23] 60 12 _ _ _ _ _ _ _ ⟨rfl, rfl, hi, sl, sN (wS W), sRl (wS W), sEx (wS W), u, sC (wS W), rfl, hev, hSt.2.1, hHb, hg, fun G' J' lw mo fe L f1 f2 f3 f4 f5 f6 => ?_⟩
    have cr : ∀ G2 : oz_G, (∀ a, a ≠ 13 → G2 a = G' a) → CR N G2 (rmR hi sl) W := fun G2 hg2 => CR_fr hCR hok.2.2.2.2 (fun i hi => by rw [hg2 i (by omega), f1 i (by omega) (by omega)])
    have hev' := Ev_fr f1 hev
    have e2 : G' 1 2 = nI (sC (wS W)) := by rw [f1 1 (by decide) (by decide)]; exact hSt.2.1
    have hf : ∀ G2 : oz_G, (∀ a, a ≠ 13 → G2 a = G' a) → Φ (some (.int (sBst (wS W) x))) N G2 (rmR hi sl) J' := fun G2 hg2 => h N G2 _ J' (Nat.le_refl _) (cr G2 hg2) (fun i a1 a2 => by rw [hg2 i (by omega), f1 i (by omega) (by omega)])
    have hfn : fnd (sN (wS W)) (sRl (wS W)) (sEx (wS W)) (sC (wS W)) = L.length := by
      by_cases z : lo (sC (wS W)) = 0
      · obtain ⟨t1, t2⟩ := f5 z
        exact fnd_eq z t1.1 (tab_all t1 t2)
      · rw [f6 (by omega)]
        unfold fnd
        rw [if_pos (by omega)]
        rfl
    have g0 := hf G' (fun _ _ => rfl)
    unfold sBst at hf g0
    refine hC.1 [52, 71, 90, 98] 60 23 _ _ _ _ _ _ _ ⟨fun k => ?_, fun k0 => ⟨fun k => ?_, fun k1 => ⟨fun k => ?_, fun k2 => ?_⟩⟩⟩
    · rw [if_pos (sw_i (k := 0) (by decide) k)] at g0
      exact hC.1 [] 60 52 _ _ _ _ _ _ _ ⟨rfl, rfl, hi, sl, sN (wS W), sRl (wS W), sEx (wS W), u, sC (wS W), sC (wS W), lw, mo, fe, L, rfl, hev', e2, hg, f4, f5, g0⟩
    · exact hC.1 [] 60 71 _ _ _ _ _ _ _ ⟨rfl, rfl, hi, sl, sN (wS W), sRl (wS W), sEx (wS W), u, sC (wS W), sC (wS W), lw, mo, fe, L, rfl, hev', e2, hg, f4, f5, fun G2 hg2 => by
        have hf := hf G2 hg2
        rw [if_neg (sw_n (k := 0) (by decide) k0), if_pos (sw_i (k := 1) (by decide) k)] at hf
        exact hf⟩
    · rw [if_neg (sw_n (k := 0) (by decide) k0), if_neg (sw_n (k := 1) (by decide) k1), if_pos (sw_i (k := 2) (by decide) k), hfn, ← f3] at g0
      exact hC.1 [] 60 90 _ _ _ _ _ _ _ g0
    · rw [if_neg (sw_n (k := 0) (by decide) k0), if_neg (sw_n (k := 1) (by decide) k1), if_neg (sw_n (k := 2) (by decide) k2)] at g0
      exact hC.1 [] 60 98 _ _ _ _ _ _ _ ⟨hi, sl, sN (wS W), sRl (wS W), sEx (wS W), u, sC (wS W), sC (wS W), lw, mo, fe, L, rfl, e2, hg, f4, f5, g0⟩
  refine hC.1 [9, 12] 30 0 _ _ _ _ _ _ _ ⟨fun q => a9 (Or.inl q), fun q => ⟨fun q2 => a12 ?_, fun q2 => a9 (Or.inr ?_)⟩⟩
  · have q2 : x ≤ nI 3 := q2
    exact fun z => z.elim q (fun z => Int32.not_lt.mpr q2 z)
  · have q2 : ¬ x ≤ nI 3 := q2
    exact Int32.not_le.mp q2
