/-! what the calls keep: the state stays a good one -/
theorem wNow_ok {W : Wd} {S : St} (h : wOk W) (hS : StOk S) : wOk (wNow W S) := ⟨hS, h.2⟩
theorem wRec_ok {W : Wd} {S : St} (h : wOk W) (hS : StOk S) : wOk (wRec W S) := wNow_ok (wPsh_ok h) hS
theorem wPad_ok {W : Wd} {w : Nat → Nat} {len : Nat} (h : wOk W) : wOk (wPad W w len) := h
theorem sNew_ok {S : St} {n c0 u : Nat} (h : StOk S) (h2 : 2 ≤ n) (h6 : n ≤ 6) (hc : c0 < 16 ^ (n + 1)) (hs : sm c0 (n + 1) = u) (h0 : 0 < u) (h14 : u ≤ 14) : StOk (sNew S n c0) := by
  obtain ⟨a1, a2, a3, a4, a5, -⟩ := h
  refine ⟨h2, h6, a3, a4, a5, u, h0, ?_, trivial⟩
  have hI : Iv n 0 u c0 := ⟨Nat.div_eq_of_lt hc, hs⟩
  have hU := Iv_up (sLv S) h6 hI
  have e : lvb (sLv S) = sLv S * 16 ^ 7 := by
    unfold lvb
    by_cases q : sLv S = 1
    · rw [if_pos q, q]
    · rw [if_neg q, show sLv S = 0 by omega, Nat.zero_mul]
  have hU2 : Iv n ((sLv S + 2 * 0) * 16 ^ (6 - n)) u (c0 + lvb (sLv S)) := by
    rw [e, Nat.mul_zero, Nat.add_zero]
    rw [Nat.zero_add] at hU
    exact hU
  exact (Gd_mk hU2 a5 (by decide) h14 h6).1
theorem sm_ev {s : Nat} (hs : s < 16) (n : Nat) : ∀ k, k ≤ n → sm (ev s n) k = s * k
  | 0, _ => rfl
  | k + 1, hk => by
    show sm (ev s n) k + dg (ev s n) k = _
    rw [sm_ev hs n k (by omega), dg_ev hs n k (by omega), Nat.mul_succ]
theorem xe_5 : ∀ s, s < 15 → ∀ n, n < 7 → 2 ≤ n → fa (xf s) 6 ≤ n → sm (tr (xf s) n n) (n + 1) = s := by decide +kernel
theorem set_ok {W : Wd} {x y : Int32} (h : wOk W) : wOk (q_set W x y).2 := by
  unfold q_set
  split
  · exact h
  · next q =>
    refine wRec_ok h ?_
    obtain ⟨hy, -, hy1⟩ := rng (x := y) (a := 0) (b := 1) (fun z => q (Or.inr (Or.inl z))) (fun z => q (Or.inr (Or.inr z))) (by decide) (by decide)
    obtain ⟨a1, a2, a3, a4, a5, a6⟩ := h.1
    refine ⟨a1, a2, ?_, ?_, ?_, a6⟩
    · show (if nt x = 0 then nt y else sRl (wS W)) ≤ 1
      split
      · exact hy1
      · exact a3
    · show (if nt x = 1 then nt y else sEx (wS W)) ≤ 1
      split
      · exact hy1
      · exact a4
    · show (if nt x = 2 then nt y else sLv (wS W)) ≤ 1
      split
      · exact hy1
      · exact a5
theorem begin_ok {W : Wd} {x y : Int32} (h : wOk W) : wOk (q_begin W x y).2 := by
  unfold q_begin
  split
  · exact h
  · next q =>
    split
    · exact h
    · next q2 =>
      have hr : rl6 x = true := by
        cases z : rl6 x
        · exact absurd (Or.inl z) q
        · rfl
      obtain ⟨hx, hx2, hx6⟩ := rl6_t hr
      obtain ⟨hy, hy1, hy7⟩ := rng (x := y) (a := 1) (b := 7) (fun z => q (Or.inr (Or.inl z))) (fun z => q (Or.inr (Or.inr z))) (by decide) (by decide)
      generalize nt x = n at hx2 hx6 q2
      generalize nt y = s at hy1 hy7 q2
      have hlt := ev_lt (show s < 16 by omega) n
      have hpos : 0 < n * s := Nat.mul_pos (by omega) (by omega)
      refine wRec_ok h (sNew_ok (u := n * s) h.1 hx2 hx6 (Nat.lt_of_lt_of_le hlt (Nat.pow_le_pow_right (by decide) (Nat.le_succ _))) ?_ hpos (by omega))
      rw [sm_up hlt, sm_ev (by omega) n n (Nat.le_refl _), Nat.mul_comm]
theorem loadExact_ok {W : Wd} {x y : Int32} (h : wOk W) : wOk (q_loadExact W x y).2 := by
  unfold q_loadExact
  split
  · exact h
  · next q =>
    split
    · exact h
    · next q2 =>
      have hr : rl6 x = true := by
        cases z : rl6 x
        · exact absurd (Or.inl z) q
        · rfl
      obtain ⟨hx, hx2, hx6⟩ := rl6_t hr
      obtain ⟨hy, hy1, hy7⟩ := rng (x := y) (a := 1) (b := 14) (fun z => q (Or.inr (Or.inl z))) (fun z => q (Or.inr (Or.inr z))) (by decide) (by decide)
      generalize nt x = n at hx2 hx6 q2
      generalize nt y = s at hy1 hy7 q2
      have hlt := tr_lt (xf s) n n
      exact wRec_ok h (sNew_ok (u := s) h.1 hx2 hx6 (Nat.lt_of_lt_of_le hlt (Nat.pow_le_pow_right (by decide) (Nat.le_succ _))) (xe_5 s (by omega) n (by omega) hx2 (by omega)) (by omega) hy7)
theorem load_ok {W : Wd} (h : wOk W) : wOk (q_load W).2 := by
  unfold q_load
  split
  · exact h
  · next q =>
    split
    · exact h
    · next q2 =>
      split
      · exact h
      · next q3 =>
        obtain ⟨r1, r2, r3, r4, r5⟩ := rdW_ok W
        have hn : (rdW W).2.2.2 = none := by
          cases z : (rdW W).2.2.2 with
          | none => rfl
          | some j => rw [z] at q; exact absurd rfl q
        obtain ⟨r4a, r4b⟩ := r4 hn
        exact wPad_ok (wRec_ok h (sNew_ok h.1 (by omega) r1 r4b r4a (by omega) (by omega)))
theorem sow_ok {W : Wd} {x : Int32} (h : wOk W) : wOk (q_sow W x).2 := by
  unfold q_sow
  split
  · exact h
  · next q =>
    split
    · exact h
    · next q2 =>
      have hn6 := h.1.2.1
      have hip : ip (sN (wS W)) x = true := by
        cases z : ip (sN (wS W)) x
        · exact absurd z q
        · rfl
      obtain ⟨hx, hlt⟩ := ip_t hip (by omega)
      have hlg := lg_le (n := sN (wS W)) (ex := sEx (wS W)) (c := sC (wS W)) (i := nt x)
      exact wRec_ok h (sMv_ok h.1 hlt (by omega))
theorem back_ok {W : Wd} (h : wOk W) : wOk (q_back W).2 := by
  obtain ⟨⟨n, rl, ex, lv, c, K⟩, H, s0, s1, w, len⟩ := W
  cases K with
  | nil => exact h
  | cons k K =>
    refine wRec_ok h ?_
    obtain ⟨a1, a2, a3, a4, a5, u, hu, hg, hK⟩ := h.1
    exact ⟨a1, a2, a3, a4, a5, u, hu, hK.1, hK.2.2.2.2.2⟩
theorem pl_ok : ∀ f (S : St) (m : Nat), StOk S → StOk (pl f S m).2
  | 0, S, m, h => h
  | f + 1, S, m, h => by
    show StOk (match fmO (sN S) (sRl S) (sEx S) (sC S) with
      | none => (m, S)
      | some i => pl f (sMv S i) (m + 1)).2
    cases z : fmO (sN S) (sRl S) (sEx S) (sC S) with
    | none => exact h
    | some i =>
      obtain ⟨u, hu, hg, hK⟩ := h.2.2.2.2.2
      obtain ⟨a1, a2⟩ := (fm_e hg).1 i z
      exact pl_ok f (sMv S i) (m + 1) (sMv_ok h a1 a2)
theorem play_ok {W : Wd} (h : wOk W) : wOk (q_play W).2 := wRec_ok h (pl_ok 20 _ 0 h.1)
theorem undo_ok {W : Wd} (h : wOk W) : wOk (q_undo W).2 := by
  obtain ⟨S, H, s0, s1, w, len⟩ := W
  cases H with
  | nil => exact h
  | cons T H =>
    obtain ⟨a1, a2, a3, a4, a5⟩ := h
    have a5 : (T :: H).length ≤ 6 := a5
    rw [List.length_cons] at a5
    exact ⟨a2 T List.mem_cons_self, fun X hX => a2 X (List.mem_cons_of_mem _ hX), a3, a4, by show H.length ≤ 6; omega⟩
theorem restore_ok {W : Wd} {x : Int32} (h : wOk W) : wOk (q_restore W x).2 := by
  unfold q_restore
  split
  · exact h
  · cases e : wSl W (nt x) with
    | none => exact h
    | some S => exact wRec_ok h (wSl_ok h e)
theorem save_ok {W : Wd} {x : Int32} (h : wOk W) : wOk (q_save W x).2 := by
  unfold q_save
  split
  · exact h
  · show wOk (wSave W (nt x))
    obtain ⟨a1, a2, a3, a4, a5⟩ := h
    unfold wSave
    split
    · exact ⟨a1, a2, fun S hS => by cases hS; exact a1, a4, a5⟩
    · exact ⟨a1, a2, a3, fun S hS => by cases hS; exact a1, a5⟩
theorem put_ok {W : Wd} {x : Int64} (h : wOk W) : wOk (q_put W x).2 := by
  unfold q_put
  split
  · exact h
  · split
    · exact h
    · exact h
theorem W00_ok : wOk W00 := ⟨by
  refine ⟨by decide, by decide, by decide, by decide, by decide, 8, by decide, ?_, trivial⟩
  have hI : Iv 4 ((0 + 2 * 0) * 16 ^ (6 - 4)) 8 (ev 2 4 + lvb 0)  := ⟨by decide +kernel, by decide +kernel⟩
  exact (Gd_mk hI (by decide) (by decide) (by decide) (by decide)).1, (fun S hS => by cases hS), (fun S hS => by cases hS), (fun S hS => by cases hS), Nat.zero_le _⟩
