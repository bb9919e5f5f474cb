/-! the class's sowing, a move -/
def mv (n rl c i : Nat) : Nat × Nat × Nat := mk n rl 1000 c i 0
def mvc (n rl c i : Nat) : Nat := if (mv n rl c i).2.1 = n then (mv n rl c i).1 else aw (mv n rl c i).1
/-- a Sowing behind a move -/
def mG (G : oz_G) (t n rl c i : Nat) : oz_G := fun a => if a = t then (fun f => if f = 0 then nI (mvc n rl c i) else if f = 1 then nI (mv n rl c i).2.1 else if f = 2 then nI (mv n rl c i).2.2 else if f = 3 then nI (dg (mv n rl c i).1 n - dg c n) else if f = 4 then nI (if (mv n rl c i).2.1 = n then 0 else 1) else G t f) else G a
theorem mx_F {n F t c j : Nat} (h : Iv n F t c) (hj : 4 * (n + 1) ≤ j) : c / 2 ^ j = F / 2 ^ (j - 4 * (n + 1)) := by
  have e : (16 : Nat) ^ (n + 1) = 2 ^ (4 * (n + 1)) := by rw [Nat.pow_mul]
  rw [← h.1, e, Nat.div_div_eq_div_mul, ← Nat.pow_add, show 4 * (n + 1) + (j - 4 * (n + 1)) = j by omega]
theorem lo_F {n F t c t' c' : Nat} (h : Iv n F t c) (h' : Iv n F t' c') (hn : n ≤ 6) : lo c' = lo c := by
  unfold lo
  rw [mx_F h (by omega), mx_F h' (by omega)]
theorem lf_F {n F t c t' c' : Nat} (h : Iv n F t c) (h' : Iv n F t' c') (hn : n ≤ 6) : lf c' = lf c := by
  unfold lf
  rw [mx_F h (by omega), mx_F h' (by omega)]
theorem mv_ok {n rl F u c i : Nat} (hv : Pv n F u c) (hi : i < n) (hd : 0 < dg c i) : Pv n F u (mv n rl c i).1 ∧ (mv n rl c i).2.1 ≤ n ∧ dg c n ≤ dg (mv n rl c i).1 n ∧ ((mv n rl c i).2.1 = n → dg c n + 1 ≤ dg (mv n rl c i).1 n) ∧ (mv n rl c i).2.2 ≤ 1000 ∧ (∀ g, 1000 ≤ g → mk n rl g c i 0 = mv n rl c i) := by
  obtain ⟨a1, a2, a3, a4, a5, a6⟩ := mk_ok (rl := rl) hv.2.1 hv.2.2.1 1000 c i 0 hv.1 hi hd mu_lt
  exact ⟨⟨a1, hv.2⟩, a2, a3, a4, by have : (mk n rl 1000 c i 0).2.2 ≤ 0 + 1000 := a6; unfold mv; omega, fun g hg => a5 g (Nat.lt_of_lt_of_le mu_lt hg)⟩
def t_X3_make : oz_T := (P_X3_make, e_X3, [(26, 1, 2, 0, s_X3_endsAmongSeeds), (34, 0, 2, 0, s_X1_seedsAt), (47, 0, 1, 0, s_X1_afterWrongMove)], (true, 44, none, false, 0), (0, fun _ => 0))
def s_X3_make : oz_S := fun a N G R J Φ => match a with
  | [.ref t, .ref o, .int x, .int y] => (t = 10 ∨ t = 13) ∧ o = 1 ∧ ∃ hi sl n rl F u c i, R = rmR hi sl ∧ x = nI c ∧ y = nI i ∧ G 1 1 = nI n ∧ G 2 0 = nI rl ∧ rl ≤ 1 ∧ Pv n F u c ∧ i < n ∧ 0 < dg c i ∧ lo c = 0 ∧ Φ none N (mG G t n rl c i) R J
  | _ => False
theorem sg_0 {G : oz_G} {t c la k : Nat} : oz2 (oz2 (oz2 G t 0 (nI c)) t 1 (nI la)) t 2 (nI k) = sg G t c la k := by
  funext i f
  by_cases hi : i = t
  · subst hi
    by_cases h0 : f = 0
    · subst h0; simp [oz2, sg]
    · by_cases h1 : f = 1
      · subst h1; simp [oz2, sg]
      · by_cases h2 : f = 2
        · subst h2; simp [oz2, sg]
        · simp [oz2, sg, h0, h1, h2]
  · simp [oz2, sg, hi]
theorem mG_0 {G : oz_G} {t n rl c i : Nat} (h : (mv n rl c i).2.1 = n) : oz2 (oz2 (sg G t (mv n rl c i).1 (mv n rl c i).2.1 (mv n rl c i).2.2) t 3 (nI (dg (mv n rl c i).1 n - dg c n))) t 4 (nI 0) = mG G t n rl c i := by
  funext a f
  unfold mG mvc
  rw [if_pos h, if_pos h]
  by_cases hi : a = t
  · subst hi
    by_cases h3 : f = 3
    · subst h3; simp [oz2, sg]
    · by_cases h4 : f = 4
      · subst h4; simp [oz2, sg]
      · simp [oz2, sg, h3, h4]
  · simp [oz2, sg, hi]
theorem mG_1 {G : oz_G} {t n rl c i : Nat} (h : ¬ (mv n rl c i).2.1 = n) : oz2 (oz2 (oz2 (sg G t (mv n rl c i).1 (mv n rl c i).2.1 (mv n rl c i).2.2) t 3 (nI (dg (mv n rl c i).1 n - dg c n))) t 4 (nI 1)) t 0 (nI (aw (mv n rl c i).1)) = mG G t n rl c i := by
  funext a f
  unfold mG mvc
  rw [if_neg h, if_neg h]
  by_cases hi : a = t
  · subst hi
    by_cases h0 : f = 0
    · subst h0; simp [oz2, sg]
    · by_cases h3 : f = 3
      · subst h3; simp [oz2, sg]
      · by_cases h4 : f = 4
        · subst h4; simp [oz2, sg]
        · simp [oz2, sg, h0, h3, h4]
  · simp [oz2, sg, hi]
theorem mm_10 {Φ : oz_C} {A : oz_Y} {N : Nat} {G : oz_G} {hi : Nat → Nat} {sl : Nat → Option Nat} {J : oz_J} (hC : oz_Cl t_X3_make Φ A) {n rl F u c i : Nat} (hn : G 1 1 = nI n) (hrl : G 2 0 = nI rl) (hr1 : rl ≤ 1) (hv : Pv n F u c) (hin : i < n) (hd : 0 < dg c i) (hlo : lo c = 0) (h : Φ none N (mG G 10 n rl c i) (rmR hi sl) J) : A 0 [some (.ref 10), some (.ref 1), some (.int (nI c)), some (.int (nI i)), none, none] [] N G (rmR hi sl) J 0 := by
  obtain ⟨b1, b2, b3, b4, b5, b6⟩ := mv_ok (rl := rl) hv hin hd
  have hc := Pv_lt hv
  have hc2 := Pv_lt b1
  have hn6 := hv.2.2.1
  have hlo2 : lo (mv n rl c i).1 = 0 := by rw [lo_F hv.1 b1.1 hn6]; exact hlo
  have last : ∀ g l : Int32, A 68 [some (.ref 10), some (.ref 1), some (.int (nI c)), some (.int (nI i)), some (.int g), some (.int l)] [] N (sg G 10 (mv n rl c i).1 (mv n rl c i).2.1 (mv n rl c i).2.2) (rmR hi sl) J 0 := by
    intro g l
    have e1 : nI (dg (mv n rl c i).1 n - dg c n) = rw_at (nI (mv n rl c i).1) (G 1 1) - rw_at (nI c) (G 1 1) := by
      rw [hn, rw_at_n (by omega) (by omega), rw_at_n (by omega) (by omega), pk_sub b3]
    by_cases q : (mv n rl c i).2.1 = n
    · rw [← mG_0 q, e1] at h
      refine hC.1 [] 60 68 _ _ _ _ _ _ _ ⟨fun hq => ⟨Or.inl rfl, ⟨fun _ => h, fun hq2 => absurd (show nI 0 = 0 from rfl) hq2⟩⟩, fun hq => absurd ?_ hq⟩
      show nI (mv n rl c i).2.1 = G 1 1
      rw [hn, q]
    · rw [← mG_1 q, e1, ← rw_aw_n hlo2 hc2] at h
      refine hC.1 [] 60 68 _ _ _ _ _ _ _ ⟨fun hq => absurd ?_ q, fun hq => ⟨Or.inr rfl, ⟨fun hq2 => absurd (show nI 1 = 0 from hq2) (by decide), fun _ => h⟩⟩⟩
      have hq : nI (mv n rl c i).2.1 = G 1 1 := hq
      rw [hn, nI_eq (by omega) (by omega)] at hq
      exact hq
  have stop : ∀ l : Int32, A 21 [some (.ref 10), some (.ref 1), some (.int (nI c)), some (.int (nI i)), some (.int (nI 0)), some (.int l)] [] N (sg G 10 (mv n rl c i).1 (mv n rl c i).2.1 (mv n rl c i).2.2) (rmR hi sl) J 0 :=
    fun l => hC.1 [68] 10 21 _ _ _ _ _ _ _ ⟨fun _ => last (nI 0) l, fun hq => absurd (show nI 0 = 0 from rfl) hq⟩
  have loop : ∀ f k c1 la, k + f = 1000 → Iv n F u c1 → la < n → 0 < dg c1 la → mk n rl f c1 la k = mv n rl c i → A 21 [some (.ref 10), some (.ref 1), some (.int (nI c)), some (.int (nI i)), some (.int (nI 1)), some (.int (nI k))] [] N (sg G 10 c1 la k) (rmR hi sl) J 0 := by
    intro f
    induction f with
    | zero =>
      intro k c1 la hk hiv hla hdl e
      have e : (c1, la, k) = mv n rl c i := e
      have hk : k = 1000 := by omega
      have := last (nI 1) (nI 1000)
      rw [← e] at this
      subst hk
      exact hC.1 [68] 20 21 _ _ _ _ _ _ _ ⟨fun hq => absurd (show nI 1 = 0 from hq) (by decide), fun _ => ⟨fun _ => this, fun hq => absurd (show oz_c 1000 ≤ nI 1000 by decide) hq⟩⟩
    | succ f ih =>
      intro k c1 la hk hiv hla hdl e
      obtain ⟨a1, a2, a3, a4, a5, a6⟩ := lp_ok hiv hv.2.1 hn6 hla hdl
      have hpv : Pv n F u c1 := ⟨hiv, hv.2⟩
      have hstop : ¬ ((lp n c1 la).2.1 ≠ n ∧ 0 < (lp n c1 la).2.2 ∧ rl = 1) → A 21 [some (.ref 10), some (.ref 1), some (.int (nI c)), some (.int (nI i)), some (.int (nI 0)), some (.int (nI k + nI 1))] [] N (sg G 10 (lp n c1 la).1 (lp n c1 la).2.1 (k + 1)) (rmR hi sl) J 0 := by
        intro q
        have e2 : mk n rl (f + 1) c1 la k = ((lp n c1 la).1, (lp n c1 la).2.1, k + 1) := by
          show (if _ then _ else _) = _
          rw [if_neg q]
        rw [e2] at e
        rw [← e] at stop
        exact stop _
      refine hC.1 [21] 40 21 _ _ _ _ _ _ _ ⟨fun hq => absurd (show nI 1 = 0 from hq) (by decide), fun _ => ⟨fun hq => absurd (show oz_c 1000 ≤ nI k from hq) (nI_ge (a := k) (b := 1000) (by omega) (by decide)), fun _ => ?_⟩⟩
      refine ⟨Or.inl rfl, G, n, F, u, c1, la, k, hn, rfl, hpv, by omega, by omega, ?_⟩
      by_cases he : (lp n c1 la).2.1 ≠ n ∧ 0 < (lp n c1 la).2.2
      · have e3 : ends n (lp n c1 la) = 1 := if_pos he
        refine ⟨fun hq => absurd (show nI (ends n (lp n c1 la)) = 0 from hq) (by rw [e3]; decide), fun _ => ⟨0, rfl, by decide, fun hq => ?_, fun hq => ?_⟩⟩
        · have hq : ¬ G 2 0 = nI 1 := hq
          exact hstop (fun z => hq (by rw [hrl, z.2.2]))
        · have hq : ¬ ¬ G 2 0 = nI 1 := hq
          have hq := Classical.not_not.mp hq
          rw [hrl, nI_eq (by omega) (by decide)] at hq
          have e2 : mk n rl (f + 1) c1 la k = mk n rl f (lp n c1 la).1 (lp n c1 la).2.1 (k + 1) := by
            show (if _ then _ else _) = _
            rw [if_pos ⟨he.1, he.2, hq⟩]
          have := ih (k + 1) (lp n c1 la).1 (lp n c1 la).2.1 (by omega) a1 (by omega) (by omega) (by rw [← e2]; exact e)
          rw [← nI_add] at this
          exact this
      · have e3 : ends n (lp n c1 la) = 0 := if_neg he
        refine ⟨fun _ => hstop (fun z => he ⟨z.1, z.2.1⟩), fun hq => absurd (show nI (ends n (lp n c1 la)) = 0 by rw [e3]; rfl) hq⟩
  have h0 := loop 1000 0 c i (by omega) hv.1 hin hd rfl
  rw [← sg_0] at h0
  exact hC.1 [21] 40 0 _ _ _ _ _ _ _ h0
theorem mm_13 {Φ : oz_C} {A : oz_Y} {N : Nat} {G : oz_G} {hi : Nat → Nat} {sl : Nat → Option Nat} {J : oz_J} (hC : oz_Cl t_X3_make Φ A) {n rl F u c i : Nat} (hn : G 1 1 = nI n) (hrl : G 2 0 = nI rl) (hr1 : rl ≤ 1) (hv : Pv n F u c) (hin : i < n) (hd : 0 < dg c i) (hlo : lo c = 0) (h : Φ none N (mG G 13 n rl c i) (rmR hi sl) J) : A 0 [some (.ref 13), some (.ref 1), some (.int (nI c)), some (.int (nI i)), none, none] [] N G (rmR hi sl) J 0 := by
  obtain ⟨b1, b2, b3, b4, b5, b6⟩ := mv_ok (rl := rl) hv hin hd
  have hc := Pv_lt hv
  have hc2 := Pv_lt b1
  have hn6 := hv.2.2.1
  have hlo2 : lo (mv n rl c i).1 = 0 := by rw [lo_F hv.1 b1.1 hn6]; exact hlo
  have last : ∀ g l : Int32, A 68 [some (.ref 13), some (.ref 1), some (.int (nI c)), some (.int (nI i)), some (.int g), some (.int l)] [] N (sg G 13 (mv n rl c i).1 (mv n rl c i).2.1 (mv n rl c i).2.2) (rmR hi sl) J 0 := by
    intro g l
    have e1 : nI (dg (mv n rl c i).1 n - dg c n) = rw_at (nI (mv n rl c i).1) (G 1 1) - rw_at (nI c) (G 1 1) := by
      rw [hn, rw_at_n (by omega) (by omega), rw_at_n (by omega) (by omega), pk_sub b3]
    by_cases q : (mv n rl c i).2.1 = n
    · rw [← mG_0 q, e1] at h
      refine hC.1 [] 60 68 _ _ _ _ _ _ _ ⟨fun hq => ⟨Or.inl rfl, ⟨fun _ => h, fun hq2 => absurd (show nI 0 = 0 from rfl) hq2⟩⟩, fun hq => absurd ?_ hq⟩
      show nI (mv n rl c i).2.1 = G 1 1
      rw [hn, q]
    · rw [← mG_1 q, e1, ← rw_aw_n hlo2 hc2] at h
      refine hC.1 [] 60 68 _ _ _ _ _ _ _ ⟨fun hq => absurd ?_ q, fun hq => ⟨Or.inr rfl, ⟨fun hq2 => absurd (show nI 1 = 0 from hq2) (by decide), fun _ => h⟩⟩⟩
      have hq : nI (mv n rl c i).2.1 = G 1 1 := hq
      rw [hn, nI_eq (by omega) (by omega)] at hq
      exact hq
  have stop : ∀ l : Int32, A 21 [some (.ref 13), some (.ref 1), some (.int (nI c)), some (.int (nI i)), some (.int (nI 0)), some (.int l)] [] N (sg G 13 (mv n rl c i).1 (mv n rl c i).2.1 (mv n rl c i).2.2) (rmR hi sl) J 0 :=
    fun l => hC.1 [68] 10 21 _ _ _ _ _ _ _ ⟨fun _ => last (nI 0) l, fun hq => absurd (show nI 0 = 0 from rfl) hq⟩
  have loop : ∀ f k c1 la, k + f = 1000 → Iv n F u c1 → la < n → 0 < dg c1 la → mk n rl f c1 la k = mv n rl c i → A 21 [some (.ref 13), some (.ref 1), some (.int (nI c)), some (.int (nI i)), some (.int (nI 1)), some (.int (nI k))] [] N (sg G 13 c1 la k) (rmR hi sl) J 0 := by
    intro f
    induction f with
    | zero =>
      intro k c1 la hk hiv hla hdl e
      have e : (c1, la, k) = mv n rl c i := e
      have hk : k = 1000 := by omega
      have := last (nI 1) (nI 1000)
      rw [← e] at this
      subst hk
      exact hC.1 [68] 20 21 _ _ _ _ _ _ _ ⟨fun hq => absurd (show nI 1 = 0 from hq) (by decide), fun _ => ⟨fun _ => this, fun hq => absurd (show oz_c 1000 ≤ nI 1000 by decide) hq⟩⟩
    | succ f ih =>
      intro k c1 la hk hiv hla hdl e
      obtain ⟨a1, a2, a3, a4, a5, a6⟩ := lp_ok hiv hv.2.1 hn6 hla hdl
      have hpv : Pv n F u c1 := ⟨hiv, hv.2⟩
      have hstop : ¬ ((lp n c1 la).2.1 ≠ n ∧ 0 < (lp n c1 la).2.2 ∧ rl = 1) → A 21 [some (.ref 13), some (.ref 1), some (.int (nI c)), some (.int (nI i)), some (.int (nI 0)), some (.int (nI k + nI 1))] [] N (sg G 13 (lp n c1 la).1 (lp n c1 la).2.1 (k + 1)) (rmR hi sl) J 0 := by
        intro q
        have e2 : mk n rl (f + 1) c1 la k = ((lp n c1 la).1, (lp n c1 la).2.1, k + 1) := by
          show (if _ then _ else _) = _
          rw [if_neg q]
        rw [e2] at e
        rw [← e] at stop
        exact stop _
      refine hC.1 [21] 40 21 _ _ _ _ _ _ _ ⟨fun hq => absurd (show nI 1 = 0 from hq) (by decide), fun _ => ⟨fun hq => absurd (show oz_c 1000 ≤ nI k from hq) (nI_ge (a := k) (b := 1000) (by omega) (by decide)), fun _ => ?_⟩⟩
      refine ⟨Or.inr rfl, G, n, F, u, c1, la, k, hn, rfl, hpv, by omega, by omega, ?_⟩
      by_cases he : (lp n c1 la).2.1 ≠ n ∧ 0 < (lp n c1 la).2.2
      · have e3 : ends n (lp n c1 la) = 1 := if_pos he
        refine ⟨fun hq => absurd (show nI (ends n (lp n c1 la)) = 0 from hq) (by rw [e3]; decide), fun _ => ⟨0, rfl, by decide, fun hq => ?_, fun hq => ?_⟩⟩
        · have hq : ¬ G 2 0 = nI 1 := hq
          exact hstop (fun z => hq (by rw [hrl, z.2.2]))
        · have hq : ¬ ¬ G 2 0 = nI 1 := hq
          have hq := Classical.not_not.mp hq
          rw [hrl, nI_eq (by omega) (by decide)] at hq
          have e2 : mk n rl (f + 1) c1 la k = mk n rl f (lp n c1 la).1 (lp n c1 la).2.1 (k + 1) := by
            show (if _ then _ else _) = _
            rw [if_pos ⟨he.1, he.2, hq⟩]
          have := ih (k + 1) (lp n c1 la).1 (lp n c1 la).2.1 (by omega) a1 (by omega) (by omega) (by rw [← e2]; exact e)
          rw [← nI_add] at this
          exact this
      · have e3 : ends n (lp n c1 la) = 0 := if_neg he
        refine ⟨fun _ => hstop (fun z => he ⟨z.1, z.2.1⟩), fun hq => absurd (show nI (ends n (lp n c1 la)) = 0 by rw [e3]; rfl) hq⟩
  have h0 := loop 1000 0 c i (by omega) hv.1 hin hd rfl
  rw [← sg_0] at h0
  exact hC.1 [21] 40 0 _ _ _ _ _ _ _ h0
theorem I_X3_make : oz_Imp t_X3_make 6 s_X3_make := by
  intro Φ A a N G R J hN hS hC
  obtain ⟨t, x, y, rfl, ht, hi, sl, n, rl, F, u, c, i, rfl, rfl, rfl, h1, h2, h3, h4, h5, h6, h7, h⟩ : ∃ t x y, a = [.ref t, .ref 1, .int x, .int y] ∧ (t = 10 ∨ t = 13) ∧ ∃ hi sl n rl F u c i, R = rmR hi sl ∧ x = nI c ∧ y = nI i ∧ G 1 1 = nI n ∧ G 2 0 = nI rl ∧ rl ≤ 1 ∧ Pv n F u c ∧ i < n ∧ 0 < dg c i ∧ lo c = 0 ∧ Φ none N (mG G t n rl c i) R J := by
    unfold s_X3_make at hS
    split at hS
    · obtain ⟨q1, rfl, q2⟩ := hS
      exact ⟨_, _, _, rfl, q1, q2⟩
    · exact hS.elim
  rcases ht with rfl | rfl
  · exact mm_10 hC h1 h2 h3 h4 h5 h6 h7 h
  · exact mm_13 hC h1 h2 h3 h4 h5 h6 h7 h
