/-! facts of parts that speak of the model, as far as they speak of numbers alone -/
theorem dg_ev {s : Nat} (hs : s < 16) : ∀ n k, k < n → dg (ev s n) k = s
  | n + 1, k, hk => by
    show dg (ev s n + s * 16 ^ n) k = s
    by_cases q : k = n
    · subst q
      have := dg_mk (a := ev s k) (d := s) (b := 0) (j := k) (ev_lt hs k) hs
      rw [Nat.zero_mul, Nat.add_zero] at this
      exact this
    · rw [dg_low (by omega)]
      exact dg_ev hs n k (by omega)
theorem aw_fl {c : Nat} (h : lo c = 0) : lf (aw c) = 0 ∧ lo (aw c) = 1 - lf c := by
  have h1 := lf_le (c := c)
  unfold aw
  by_cases q : lf c = 0
  · rw [if_pos q, q]
    unfold lf at q ⊢
    unfold lo at h ⊢
    omega
  · rw [if_neg q, show lf c = 1 by omega]
    unfold lf at q h1 ⊢
    unfold lo at h ⊢
    omega
theorem mvc_dg {n rl u c i : Nat} (hg : Gd n u c) (hlo : lo c = 0) (hin : i < n) (hd : 0 < dg c i) : (∀ j, j ≤ n → dg (mvc n rl c i) j = dg (mv n rl c i).1 j) ∧ dg c n ≤ dg (mv n rl c i).1 n ∧ (mv n rl c i).2.1 ≤ n ∧ (mv n rl c i).2.2 ≤ 1000 := by
  obtain ⟨b1, b2, b3, b4, b5, b6⟩ := mv_ok (rl := rl) (Gd_Pv hg) hin hd
  have ho := lo_F (Gd_Pv hg).1 b1.1 hg.2.2
  have gm : Gd n u (mv n rl c i).1 := (Gd_mk b1.1 lf_le lo_le hg.2.1 hg.2.2).1
  refine ⟨fun j hj => ?_, b3, b2, b5⟩
  unfold mvc
  by_cases q : (mv n rl c i).2.1 = n
  · rw [if_pos q]
  · rw [if_neg q]
    exact (Gd_aw gm (by rw [ho]; exact hlo)).2.2 j hj
def mco (n c : Nat) : Nat := c % 16 ^ n + lf c * 2 ^ 24
theorem p6 {k : Nat} (hk : k ≤ 6) : (16 : Nat) ^ k ≤ 2 ^ 24 := by
  have h := Nat.pow_le_pow_right (n := 16) (by decide) hk
  have e : (16 : Nat) ^ 6 = 2 ^ 24 := by decide
  omega
theorem mod_s (c k : Nat) : c % 16 ^ (k + 1) = c % 16 ^ k + dg c k * 16 ^ k := by
  rw [Nat.mod_pow_succ, Nat.mul_comm]
  rfl
theorem mco_d {n c k : Nat} (hk : k < n) (hn : n ≤ 6) : dg (mco n c) k = dg c k := by
  have e : mco n c = c % 16 ^ n + lf c * 16 ^ 6 := by unfold mco; rw [show (2 : Nat) ^ 24 = 16 ^ 6 by decide]
  rw [e, dg_low (show k < 6 by omega)]
  conv => rhs; rw [← Nat.mod_add_div c (16 ^ n), Nat.mul_comm (16 ^ n)]
  rw [dg_low hk]
theorem mco_l {n c : Nat} (hn : n ≤ 6) : mco n c / 2 ^ 24 = lf c := by
  have h1 : c % 16 ^ n < 16 ^ n := Nat.mod_lt _ (Nat.pow_pos (by decide))
  have h2 := p6 hn
  unfold mco
  omega
/-- a good position that isn't lost is told by its number -/
theorem mco_inj {n u c c' : Nat} (h : Gd n u c) (h' : Gd n u c') (ho : lo c = 0) (ho' : lo c' = 0) (e : mco n c = mco n c') : c = c' := by
  have hn := h.2.2
  have hl : lf c = lf c' := by rw [← mco_l hn, e, mco_l hn]
  have hd : ∀ k, k < n → dg c k = dg c' k := fun k hk => by rw [← mco_d hk hn, e, mco_d hk hn]
  have s1 : sm c n + dg c n = u := h.1.2
  have s2 : sm c' n + dg c' n = u := h'.1.2
  have hs := sm_congr n hd
  have hdn : dg c n = dg c' n := by omega
  have hm : c % 16 ^ n = c' % 16 ^ n := by
    have e1 : mco n c = c % 16 ^ n + lf c * 2 ^ 24 := rfl
    have e2 : mco n c' = c' % 16 ^ n + lf c' * 2 ^ 24 := rfl
    rw [e1, e2, hl] at e
    omega
  have hm1 : c % 16 ^ (n + 1) = c' % 16 ^ (n + 1) := by rw [mod_s, mod_s, hm, hdn]
  have hq : c / 16 ^ (n + 1) = c' / 16 ^ (n + 1) := by
    have a1 := h.1.1
    have a2 := h'.1.1
    rw [ho, hl] at a1
    rw [ho'] at a2
    rw [a1, a2]
  rw [← Nat.mod_add_div c (16 ^ (n + 1)), ← Nat.mod_add_div c' (16 ^ (n + 1)), hm1, hq]
theorem Rk_ok {n rl ex u c0 : Nat} (hg : Gd n u c0) (h0 : lo c0 = 0) : ∀ d x, Rk n rl ex c0 d x → Gd n u x ∧ lo x = 0 ∧ d + pot n x ≤ pot n c0
  | 0, x, h => by
    have h : x = c0 := h
    rw [h]
    exact ⟨hg, h0, by omega⟩
  | d + 1, x, h => by
    obtain ⟨c, i, h1, h2, h3, rfl, h5⟩ := h
    obtain ⟨a1, a2, a3⟩ := Rk_ok hg h0 d c h1
    obtain ⟨m1, m2⟩ := Gd_mv (rl := rl) a1 h2 (lg_e h3).2 a2
    exact ⟨m1, h5, by omega⟩
theorem Hb_lost {n rl ex c : Nat} (h : lo c = 1) : Hb n rl ex c := fun L h1 h2 => by
  have key : ∀ d x, Rk n rl ex c d x → x = c := by
    intro d
    induction d with
    | zero => intro x hx; exact hx
    | succ d ih =>
      intro x hx
      obtain ⟨y, i, a1, a2, a3, a4, a5⟩ := hx
      have hy := ih y a1
      rw [hy] at a3
      have := (lg_e a3).1
      omega
  have hle := nd_le L [c] h1 (fun x hx => by
    obtain ⟨d, hd⟩ := h2 x hx
    rw [key d x hd]
    exact List.mem_cons_self)
  have : [c].length = 1 := rfl
  omega
def W00 : Wd := (S0, [], none, none, fun _ => 0, 0)
theorem wNow_ok {W : Wd} {S : St} (h : wOk W) (hS : StOk S) : wOk (wNow W S) := ⟨hS, h.2⟩
theorem wRec_ok {W : Wd} {S : St} (h : wOk W) (hS : StOk S) : wOk (wRec W S) := wNow_ok (wPsh_ok h) hS
theorem sNew_ok {S : St} {n c0 u : Nat} (h : StOk S) (h2 : 2 ≤ n) (h6 : n ≤ 6) (hc : c0 < 16 ^ (n + 1)) (hs : sm c0 (n + 1) = u) (h0 : 0 < u) (h14 : u ≤ 14) : StOk (sNew S n c0) := by
  obtain ⟨a1, a2, a3, a4, a5, -⟩ := h
  refine ⟨h2, h6, a3, a4, a5, u, h0, ?_, trivial⟩
  have hI : Iv n 0 u c0 := ⟨Nat.div_eq_of_lt hc, hs⟩
  have hU := Iv_up (sLv S) h6 hI
  have e : lvb (sLv S) = sLv S * 16 ^ 7 := by
    unfold lvb
    by_cases q : sLv S = 1
    · rw [if_pos q, q]
    · rw [if_neg q, show sLv S = 0 by omega, Nat.zero_mul]
  have hU2 : Iv n ((sLv S + 2 * 0) * 16 ^ (6 - n)) u (c0 + lvb (sLv S)) := by
    rw [e, Nat.mul_zero, Nat.add_zero]
    rw [Nat.zero_add] at hU
    exact hU
  exact (Gd_mk hU2 a5 (by decide) h14 h6).1
theorem sm_ev {s : Nat} (hs : s < 16) (n : Nat) : ∀ k, k ≤ n → sm (ev s n) k = s * k
  | 0, _ => rfl
  | k + 1, hk => by
    show sm (ev s n) k + dg (ev s n) k = _
    rw [sm_ev hs n k (by omega), dg_ev hs n k (by omega), Nat.mul_succ]
theorem xe_5 : ∀ s, s < 15 → ∀ n, n < 7 → 2 ≤ n → fa (xf s) 6 ≤ n → sm (tr (xf s) n n) (n + 1) = s := by decide +kernel
theorem set_ok {W : Wd} {x y : Int32} (h : wOk W) : wOk (q_set W x y).2 := by
  unfold q_set
  split
  · exact h
  · next q =>
    refine wRec_ok h ?_
    obtain ⟨hy, -, hy1⟩ := rng (x := y) (a := 0) (b := 1) (fun z => q (Or.inr (Or.inl z))) (fun z => q (Or.inr (Or.inr z))) (by decide) (by decide)
    obtain ⟨a1, a2, a3, a4, a5, a6⟩ := h.1
    refine ⟨a1, a2, ?_, ?_, ?_, a6⟩
    · show (if nt x = 0 then nt y else sRl (wS W)) ≤ 1
      split
      · exact hy1
      · exact a3
    · show (if nt x = 1 then nt y else sEx (wS W)) ≤ 1
      split
      · exact hy1
      · exact a4
    · show (if nt x = 2 then nt y else sLv (wS W)) ≤ 1
      split
      · exact hy1
      · exact a5
theorem begin_ok {W : Wd} {x y : Int32} (h : wOk W) : wOk (q_begin W x y).2 := by
  unfold q_begin
  split
  · exact h
  · next q =>
    split
    · exact h
    · next q2 =>
      have hr : rl6 x = true := by
        cases z : rl6 x
        · exact absurd (Or.inl z) q
        · rfl
      obtain ⟨hx, hx2, hx6⟩ := rl6_t hr
      obtain ⟨hy, hy1, hy7⟩ := rng (x := y) (a := 1) (b := 7) (fun z => q (Or.inr (Or.inl z))) (fun z => q (Or.inr (Or.inr z))) (by decide) (by decide)
      generalize nt x = n at hx2 hx6 q2
      generalize nt y = s at hy1 hy7 q2
      have hlt := ev_lt (show s < 16 by omega) n
      have hpos : 0 < n * s := Nat.mul_pos (by omega) (by omega)
      refine wRec_ok h (sNew_ok (u := n * s) h.1 hx2 hx6 (Nat.lt_of_lt_of_le hlt (Nat.pow_le_pow_right (by decide) (Nat.le_succ _))) ?_ hpos (by omega))
      rw [sm_up hlt, sm_ev (by omega) n n (Nat.le_refl _), Nat.mul_comm]
theorem loadExact_ok {W : Wd} {x y : Int32} (h : wOk W) : wOk (q_loadExact W x y).2 := by
  unfold q_loadExact
  split
  · exact h
  · next q =>
    split
    · exact h
    · next q2 =>
      have hr : rl6 x = true := by
        cases z : rl6 x
        · exact absurd (Or.inl z) q
        · rfl
      obtain ⟨hx, hx2, hx6⟩ := rl6_t hr
      obtain ⟨hy, hy1, hy7⟩ := rng (x := y) (a := 1) (b := 14) (fun z => q (Or.inr (Or.inl z))) (fun z => q (Or.inr (Or.inr z))) (by decide) (by decide)
      generalize nt x = n at hx2 hx6 q2
      generalize nt y = s at hy1 hy7 q2
      have hlt := tr_lt (xf s) n n
      exact wRec_ok h (sNew_ok (u := s) h.1 hx2 hx6 (Nat.lt_of_lt_of_le hlt (Nat.pow_le_pow_right (by decide) (Nat.le_succ _))) (xe_5 s (by omega) n (by omega) hx2 (by omega)) (by omega) hy7)
theorem sow_ok {W : Wd} {x : Int32} (h : wOk W) : wOk (q_sow W x).2 := by
  unfold q_sow
  split
  · exact h
  · next q =>
    split
    · exact h
    · next q2 =>
      have hn6 := h.1.2.1
      have hip : ip (sN (wS W)) x = true := by
        cases z : ip (sN (wS W)) x
        · exact absurd z q
        · rfl
      obtain ⟨hx, hlt⟩ := ip_t hip (by omega)
      have hlg := lg_le (n := sN (wS W)) (ex := sEx (wS W)) (c := sC (wS W)) (i := nt x)
      exact wRec_ok h (sMv_ok h.1 hlt (by omega))
theorem back_ok {W : Wd} (h : wOk W) : wOk (q_back W).2 := by
  obtain ⟨⟨n, rl, ex, lv, c, K⟩, H, s0, s1, w, len⟩ := W
  cases K with
  | nil => exact h
  | cons k K =>
    refine wRec_ok h ?_
    obtain ⟨a1, a2, a3, a4, a5, u, hu, hg, hK⟩ := h.1
    exact ⟨a1, a2, a3, a4, a5, u, hu, hK.1, hK.2.2.2.2.2⟩
theorem W00_ok : wOk W00 := ⟨by
  refine ⟨by decide, by decide, by decide, by decide, by decide, 8, by decide, ?_, trivial⟩
  have hI : Iv 4 ((0 + 2 * 0) * 16 ^ (6 - 4)) 8 (ev 2 4 + lvb 0)  := ⟨by decide +kernel, by decide +kernel⟩
  exact (Gd_mk hI (by decide) (by decide) (by decide) (by decide)).1, (fun S hS => by cases hS), (fun S hS => by cases hS), (fun S hS => by cases hS), Nat.zero_le _⟩
