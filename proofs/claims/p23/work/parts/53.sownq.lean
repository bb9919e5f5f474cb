/-! the law's methods: sown, what the class answers there -/
theorem ar_k {i : Nat} (h : 44 ≤ i) : oz_k i = 6 := oz_nth_out _ _ _ h
theorem ar_l {i : Nat} (h : 44 ≤ i) : oz_l i = 7 := oz_nth_out _ _ _ h
theorem SlR_no {G G' : oz_G} {N : Nat} {sl : Nat → Option Nat} (hs : slOk N sl) {s : Option St} {k : Nat} (hk : k < 2) (h : SlR G sl s k) : SlR G' sl s k := by
  cases s with
  | none => exact h
  | some S =>
    obtain ⟨b, h1, h2⟩ := h
    obtain ⟨a1, a2, a3⟩ := hs.1 k b hk h1
    omega
theorem CR_ar {N N' : Nat} {G G' : oz_G} {R : oz_R} {W : Wd} (h : CR N G R W) (hlen : (wH W).length ≤ 6) (hN : N ≤ N') (hf : ∀ i, i < 44 → G' i = G i) : CR N' G' R W := by
  obtain ⟨hi, sl, rfl, hh, hs, hS, hl, hH, h0, h1, hP⟩ := h
  refine ⟨hi, sl, rfl, hh, ⟨fun k b hk hb => ?_, hs.2.1, Nat.le_trans hs.2.2.1 hN, Nat.le_trans hs.2.2.1 hN⟩, StR_fr (fun i a1 a2 => hf i (by omega)) hS, by rw [hf 0 (by decide)]; exact hl, HsR_fr hh (fun i a1 a2 => hf i (by omega)) _ hlen hH, SlR_no hs (by decide) h0, SlR_no hs (by decide) h1, PdC_fr (by rw [hf 8 (by decide)]) (by rw [hf 9 (by decide)]) hP⟩
  obtain ⟨a1, a2, a3⟩ := hs.1 k b hk hb
  omega
theorem lg_cb {S : St} {i : Nat} (h : cb S i = 0) : lg (sN S) (sEx S) (sC S) i = 0 := by
  by_cases q : lo (sC S) = 0
  · rw [← cb_lg q]; exact h
  · exact lg_lo q
theorem ms_0 {n ex c i : Nat} : ∀ k, i < k → ms n ex c k = 0 → lg n ex c i = 0
  | 0, h, _ => absurd h (Nat.not_lt_zero _)
  | k + 1, h, e => by
    have e : ms n ex c k + lg n ex c k * 2 ^ k = 0 := e
    by_cases q : i = k
    · subst q
      have h2 : 0 < 2 ^ i := Nat.two_pow_pos i
      rcases Nat.eq_zero_or_pos (lg n ex c i) with z | z
      · exact z
      · have := Nat.mul_pos z h2; omega
    · exact ms_0 k (by omega) (by omega)
/-- outside the row -/
theorem qs_1 {W : Wd} {p : Nat} (ok : wOk W) (h : sN (wS W) ≤ p) (hp : p < 2 ^ 31) : q_sow W (nI p) = (oz_c (-1), W) := by
  have := ok.1.2.1
  unfold q_sow
  rw [ip_n (by omega) hp, decide_eq_false (by omega), if_pos rfl]
theorem qi_1 {W : Wd} {p : Nat} {y : Int32} (ok : wOk W) (h : sN (wS W) ≤ p) (hp : p < 2 ^ 31) : q_ifSown W (nI p) y = (oz_c (-1), W) := by
  have := ok.1.2.1
  unfold q_ifSown
  rw [ip_n (by omega) hp, decide_eq_false (by omega), if_pos rfl]
theorem qh_1 {W : Wd} {p : Nat} {y : Int32} (ok : wOk W) (h : sN (wS W) ≤ p) (hp : p < 2 ^ 31) : q_ifSownHas W (nI p) y = (oz_c (-1), W) := by
  have := ok.1.2.1
  unfold q_ifSownHas
  rw [ip_n (by omega) hp, decide_eq_false (by omega), if_pos (Or.inl rfl)]
/-- a pit that can't be sown -/
theorem qs_5 {W : Wd} {p : Nat} (ok : wOk W) (h : p < sN (wS W)) (hl : lg (sN (wS W)) (sEx (wS W)) (sC (wS W)) p = 0) : q_sow W (nI p) = (oz_c (-5), W) := by
  have := ok.1.2.1
  unfold q_sow
  rw [ip_n (by omega) (by omega), decide_eq_true h, if_neg (by decide), nt_nI (by omega), if_pos hl]
theorem qi_5 {W : Wd} {p j : Nat} (ok : wOk W) (h : p < sN (wS W)) (hj : j ≤ 4) (hl : lg (sN (wS W)) (sEx (wS W)) (sC (wS W)) p = 0) : q_ifSown W (nI p) (nI j) = (oz_c (-5), W) := by
  have := ok.1.2.1
  unfold q_ifSown
  rw [ip_n (by omega) (by omega), decide_eq_true h, if_neg (by decide), if_neg, nt_nI (by omega), if_pos hl]
  rintro (z | z)
  · exact nI_pos (by omega) z
  · exact nI_nlt hj (by omega) z
theorem qi_2 {W : Wd} {p : Nat} (ok : wOk W) (h : p < sN (wS W)) : q_ifSown W (nI p) (nI 5) = (oz_c (-2), W) := by
  have := ok.1.2.1
  unfold q_ifSown
  rw [ip_n (by omega) (by omega), decide_eq_true h, if_neg (by decide), if_pos (Or.inr (nI_lt (by decide) (by decide)))]
theorem qh_5 {W : Wd} {p j : Nat} (ok : wOk W) (h : p < sN (wS W)) (hj : j ≤ sN (wS W)) (hl : lg (sN (wS W)) (sEx (wS W)) (sC (wS W)) p = 0) : q_ifSownHas W (nI p) (nI j) = (oz_c (-5), W) := by
  have := ok.1.2.1
  unfold q_ifSownHas
  rw [if_neg, nt_nI (by omega), if_pos hl]
  rw [ip_n (by omega) (by omega), decide_eq_true h]
  rintro (z | z | z)
  · cases z
  · exact nI_pos (by omega) z
  · exact nI_nlt hj (by omega) z
/-- one that can -/
theorem qs_y {W : Wd} {p : Nat} (ok : wOk W) (h : p < sN (wS W)) (hl : lg (sN (wS W)) (sEx (wS W)) (sC (wS W)) p = 1) : q_sow W (nI p) = (nI (sGn (wS W) p), wRec W (sMv (wS W) p)) := by
  have := ok.1.2.1
  unfold q_sow
  rw [ip_n (by omega) (by omega), decide_eq_true h, if_neg (by decide), nt_nI (by omega), if_neg (by omega)]
theorem qi_y {W : Wd} {p j : Nat} (ok : wOk W) (h : p < sN (wS W)) (hj : j ≤ 4) (hl : lg (sN (wS W)) (sEx (wS W)) (sC (wS W)) p = 1) : q_ifSown W (nI p) (nI j) = (sIf (wS W) p (nI j), W) := by
  have := ok.1.2.1
  unfold q_ifSown
  rw [ip_n (by omega) (by omega), decide_eq_true h, if_neg (by decide), if_neg, nt_nI (by omega), if_neg (by omega)]
  rintro (z | z)
  · exact nI_pos (by omega) z
  · exact nI_nlt hj (by omega) z
theorem qh_y {W : Wd} {p j : Nat} (ok : wOk W) (h : p < sN (wS W)) (hj : j ≤ sN (wS W)) (hl : lg (sN (wS W)) (sEx (wS W)) (sC (wS W)) p = 1) : q_ifSownHas W (nI p) (nI j) = (nI (dg (mvc (sN (wS W)) (sRl (wS W)) (sC (wS W)) p) j), W) := by
  have := ok.1.2.1
  unfold q_ifSownHas
  rw [if_neg, nt_nI (by omega), if_neg (by omega), nt_nI (by omega)]
  rw [ip_n (by omega) (by omega), decide_eq_true h]
  rintro (z | z | z)
  · cases z
  · exact nI_pos (by omega) z
  · exact nI_nlt hj (by omega) z
/-- a move that can be made: what the law checks of it -/
def sAt (S : St) (p : Nat) : Nat := (mv (sN S) (sRl S) (sC S) p).2.1
def sLp (S : St) (p : Nat) : Nat := (mv (sN S) (sRl S) (sC S) p).2.2
def sMd (S : St) (p : Nat) : Nat := (mv (sN S) (sRl S) (sC S) p).1
def sCc (S : St) (p : Nat) : Nat := mvc (sN S) (sRl S) (sC S) p
def sWr (S : St) (p : Nat) : Nat := if sAt S p = sN S then 0 else 1
def sLs (S : St) (p : Nat) : Nat := if sAt S p = sN S then 0 else 1 - lf (sC S)
theorem sw_f {S : St} {p : Nat} (h : StOk S) (hp : p < sN S) (hl : lg (sN S) (sEx S) (sC S) p = 1) : lo (sC S) = 0 ∧ 0 < dg (sC S) p ∧ (∀ j, j ≤ sN S → dg (sCc S p) j = dg (sMd S p) j) ∧ dg (sC S) (sN S) ≤ dg (sMd S p) (sN S) ∧ sAt S p ≤ sN S ∧ sLp S p ≤ 1000 ∧ lo (sCc S p) = sLs S p ∧ lf (sCc S p) = (if sAt S p = sN S then lf (sC S) else 0) := by
  obtain ⟨u, hu, hg, hK⟩ := h.2.2.2.2.2
  obtain ⟨hlo, hd⟩ := lg_e hl
  obtain ⟨a1, a2, a3, a4⟩ := mvc_dg (rl := sRl S) hg hlo hp hd
  obtain ⟨b1, -⟩ := mv_ok (rl := sRl S) (Gd_Pv hg) hp hd
  have e1 := lf_F (Gd_Pv hg).1 b1.1 hg.2.2
  have e2 := lo_F (Gd_Pv hg).1 b1.1 hg.2.2
  refine ⟨hlo, hd, a1, a2, a3, a4, ?_, ?_⟩
  · unfold sCc sLs sAt mvc
    by_cases q : (mv (sN S) (sRl S) (sC S) p).2.1 = sN S
    · rw [if_pos q, if_pos q, e2, hlo]
    · rw [if_neg q, if_neg q, (aw_fl (by rw [e2]; exact hlo)).2, e1]
  · unfold sCc sAt mvc
    by_cases q : (mv (sN S) (sRl S) (sC S) p).2.1 = sN S
    · rw [if_pos q, if_pos q, e1]
    · rw [if_neg q, if_neg q, (aw_fl (by rw [e2]; exact hlo)).1]
theorem hw_2 {n ex c : Nat} : hw n ex c = 2 ↔ lo c = 1 := by
  unfold hw
  by_cases q : lo c = 1
  · rw [if_pos q]; exact ⟨fun _ => q, fun _ => rfl⟩
  · rw [if_neg q]
    refine ⟨fun z => ?_, fun z => absurd z q⟩
    split at z
    · cases z
    · split at z <;> cases z
theorem hw_le {n ex c : Nat} : hw n ex c ≤ 3 := by
  unfold hw
  split
  · decide
  · split
    · decide
    · split <;> decide
theorem sWr_le {S : St} {p : Nat} : sWr S p ≤ 1 := by unfold sWr; split <;> decide
theorem sLs_le {S : St} {p : Nat} : sLs S p ≤ 1 := by
  have := lf_le (c := sC S)
  unfold sLs; split <;> omega
/-- the two rows: what the move comes to, and what was -/
def ArH (b n M c : Nat) (G : oz_G) : Prop := ∀ j, j ≤ n → G b j = nI (dg M j) ∧ G (b + 1) j = nI (dg c j)
theorem ArH_fr {b n M c N N' : Nat} {G G' : oz_G} {R : oz_R} {W : Wd} (hb : 44 ≤ b) (h : ArH b n M c G) (s : Rn N G W N' G' R) : ArH b n M c G' := fun j hj => by
  rw [s.2.1 b hb (by omega), s.2.1 (b + 1) (by omega) (by omega)]
  exact h j hj
theorem smK {Φ : oz_C} {N0 N : Nat} {G0 G : oz_G} {R : oz_R} {W : Wd} {b : Nat} (hb : 44 ≤ b) (hbN : b < N0) (hv : ∀ k, k ≤ sN (wS W) → G b k = nI (dg (sC (wS W)) k)) (s : Rn N0 G0 W N G R) (k : ∀ (N' : Nat) (G' : oz_G) (R' : oz_R) (J' : oz_J), Rn N0 G0 W N' G' R' → Φ (some (.int (nI 1))) N' G' R' J') : 0 = 0 ∧ ∃ W, CR N G R W ∧ wOk W ∧ arO N b ∧ (∀ k, k ≤ sN (wS W) → G b k = nI (dg (sC (wS W)) k)) ∧ pQ N G W Φ (nI 1, W) := ⟨rfl, W, s.2.2.1, s.2.2.2, ⟨hb, ar_k hb, ar_l hb, Nat.lt_of_lt_of_le hbN s.1⟩, hv, qK rfl s.2.2.2 s k⟩
