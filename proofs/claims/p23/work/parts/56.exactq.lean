/-! exact positions: facts of numbers -/
def eC (n s k lv : Nat) : Nat := tr (xf s) n n + k * 16 ^ n + lvb lv
/-- the first distance that has no seeds -/
def fi (c : Nat) : Nat → Nat → Nat
  | 0, d => d
  | f + 1, d => if 0 < dg c (d - 1) then fi c f (d + 1) else d
def eF (s : Nat) : Nat := fi (xf (s - 1)) 6 1
def exP (n s k lv rl : Nat) : Prop := (0 < eF s ∧ eF s ≤ n) ∧ mvc n rl (eC n s k lv) (n - eF s) = eC n (s - 1) (k + 1) lv ∧ lo (eC n s k lv) = 0 ∧ 0 < dg (eC n s k lv) (n - eF s) ∧ (n - eF s + dg (eC n s k lv) (n - eF s)) % (n + 1) = n
def exZ (n s k lv rl : Nat) : Bool := (Nat.blt 0 (eF s) && Nat.ble (eF s) n) && (Nat.beq (mvc n rl (eC n s k lv) (n - eF s)) (eC n (s - 1) (k + 1) lv) && (Nat.beq (lo (eC n s k lv)) 0 && (Nat.blt 0 (dg (eC n s k lv) (n - eF s)) && Nat.beq ((n - eF s + dg (eC n s k lv) (n - eF s)) % (n + 1)) n)))
theorem exZ_e {n s k lv rl : Nat} (h : exZ n s k lv rl = true) : exP n s k lv rl := by
  unfold exZ at h
  simp only [Bool.and_eq_true] at h
  obtain ⟨⟨h1, h2⟩, h3, h4, h5, h6⟩ := h
  exact ⟨⟨oz_lt_e h1, Nat.le_of_ble_eq_true h2⟩, Nat.eq_of_beq_eq_true h3, Nat.eq_of_beq_eq_true h4, oz_lt_e h5, Nat.eq_of_beq_eq_true h6⟩
def exQ (n s k : Nat) : Bool := Nat.beq s 0 || (Nat.blt n (fa (xf s) 6) || Nat.blt 14 (s + k))
theorem exQ_e {n s k : Nat} (h0 : 0 < s) (hf : fa (xf s) 6 ≤ n) (hk : s + k ≤ 14) : exQ n s k = false := by
  unfold exQ
  simp only [Bool.or_eq_false_iff]
  refine ⟨?_, ?_, ?_⟩
  · exact beq_ne (by omega)
  · cases z : Nat.blt n (fa (xf s) 6)
    · rfl
    · exact absurd (oz_lt_e z) (by omega)
  · cases z : Nat.blt 14 (s + k)
    · rfl
    · exact absurd (oz_lt_e z) (by omega)
theorem ex_mv2 : ∀ s, s < 15 → ∀ k, k < 15 → ∀ lv, lv < 2 → ∀ rl, rl < 2 → (exQ 2 s k || exZ 2 s k lv rl) = true := by decide +kernel
theorem ex_mv3 : ∀ s, s < 15 → ∀ k, k < 15 → ∀ lv, lv < 2 → ∀ rl, rl < 2 → (exQ 3 s k || exZ 3 s k lv rl) = true := by decide +kernel
theorem ex_mv4 : ∀ s, s < 15 → ∀ k, k < 15 → ∀ lv, lv < 2 → ∀ rl, rl < 2 → (exQ 4 s k || exZ 4 s k lv rl) = true := by decide +kernel
theorem ex_mv5 : ∀ s, s < 15 → ∀ k, k < 15 → ∀ lv, lv < 2 → ∀ rl, rl < 2 → (exQ 5 s k || exZ 5 s k lv rl) = true := by decide +kernel
theorem ex_mv6 : ∀ s, s < 15 → ∀ k, k < 15 → ∀ lv, lv < 2 → ∀ rl, rl < 2 → (exQ 6 s k || exZ 6 s k lv rl) = true := by decide +kernel
theorem ex_mv {n rl s k lv : Nat} (h2 : 2 ≤ n) (h6 : n ≤ 6) (hs : s < 15) (h0 : 0 < s) (hf : fa (xf s) 6 ≤ n) (hk : s + k ≤ 14) (hl : lv ≤ 1) (hr : rl ≤ 1) : exP n s k lv rl := by
  have hq := exQ_e h0 hf hk
  have key : (exQ n s k || exZ n s k lv rl) = true := by
    have hn : n = 2 ∨ n = 3 ∨ n = 4 ∨ n = 5 ∨ n = 6 := by omega
    rcases hn with rfl | rfl | rfl | rfl | rfl
    · exact ex_mv2 s hs k (by omega) lv (by omega) rl (by omega)
    · exact ex_mv3 s hs k (by omega) lv (by omega) rl (by omega)
    · exact ex_mv4 s hs k (by omega) lv (by omega) rl (by omega)
    · exact ex_mv5 s hs k (by omega) lv (by omega) rl (by omega)
    · exact ex_mv6 s hs k (by omega) lv (by omega) rl (by omega)
  rw [hq] at key
  exact exZ_e key
theorem ex_fa : ∀ s, s < 15 → 0 < s → fa (xf (s - 1)) 6 ≤ fa (xf s) 6 ∧ 0 < fa (xf s) 6 := by decide +kernel
theorem ex_sm : ∀ s, s < 15 → sm (xf s) 6 = s := by decide +kernel
theorem ex_du : ∀ s, s < 15 → 0 < s → ∀ i, i < 6 → nI (dg (xf s) i) = (if i + 1 < eF s then nI (dg (xf (s - 1)) i) - nI 1 else if i + 1 = eF s then nI (i + 1) else nI (dg (xf (s - 1)) i)) := by decide +kernel
def exG (n s lv : Nat) : Bool := (Nat.beq (dg (tr (xf s) n n + lvb lv) n + sm (tr (xf s) n n + lvb lv) n) s && Nat.beq (dg (tr (xf s) n n + lvb lv) (n - 1)) (dg (xf s) 0)) && (Nat.blt 0 (sm (tr (xf s) n n + lvb lv) n) && (Nat.beq (lo (tr (xf s) n n + lvb lv)) 0 && Nat.beq (pw (tr (xf s) n n) n) (pw (xf s) 6)))
theorem ex_f0 : ∀ n, n < 7 → ∀ s, s < 15 → ∀ lv, lv < 2 → (Nat.blt n 2 || (exQ n s 0 || exG n s lv)) = true := by decide +kernel
theorem ex_f (n : Nat) (h7 : n < 7) (h2 : 2 ≤ n) (s : Nat) (hs : s < 15) (h0 : 0 < s) (hf : fa (xf s) 6 ≤ n) (lv : Nat) (hl : lv < 2) : dg (tr (xf s) n n + lvb lv) n + sm (tr (xf s) n n + lvb lv) n = s ∧ dg (tr (xf s) n n + lvb lv) (n - 1) = dg (xf s) 0 ∧ ¬ sm (tr (xf s) n n + lvb lv) n = 0 ∧ lo (tr (xf s) n n + lvb lv) = 0 ∧ pw (tr (xf s) n n) n = pw (xf s) 6 := by
  have key := ex_f0 n h7 s hs lv hl
  have hb : Nat.blt n 2 = false := by
    cases z : Nat.blt n 2
    · rfl
    · exact absurd (oz_lt_e z) (by omega)
  rw [hb, exQ_e h0 hf (by omega)] at key
  have key : exG n s lv = true := key
  unfold exG at key
  simp only [Bool.and_eq_true] at key
  obtain ⟨⟨h1, h2⟩, h3, h4, h5⟩ := key
  have h3 := oz_lt_e h3
  exact ⟨Nat.eq_of_beq_eq_true h1, Nat.eq_of_beq_eq_true h2, by omega, Nat.eq_of_beq_eq_true h4, Nat.eq_of_beq_eq_true h5⟩
theorem ex_0 : ∀ n, n < 7 → ∀ k, k < 15 → ∀ lv, lv < 2 → dg (eC n 0 k lv) n = k ∧ sm (eC n 0 k lv) n = 0 := by decide +kernel
theorem fo_gx {f : Nat → Nat → Nat} {a b i : Nat} (hm : ∀ k x, b ≤ x → b ≤ f k x) (hi : ∀ x, b ≤ f i x) : ∀ n, i < n → b ≤ fo f a n
  | 0, h => absurd h (Nat.not_lt_zero _)
  | n + 1, h => by
    show b ≤ f n (fo f a n)
    by_cases q : i = n
    · rw [← q]; exact hi _
    · exact hm _ _ (fo_gx hm hi n (by omega))
theorem fo_gy {f : Nat → Nat → Nat} {a b : Nat} (ha : b ≤ a) (hm : ∀ k x, b ≤ x → b ≤ f k x) : ∀ n, b ≤ fo f a n
  | 0 => ha
  | n + 1 => hm _ _ (fo_gy ha hm n)
theorem fo_gz {f : Nat → Nat → Nat} {a b i : Nat} (hm : ∀ k x, x ≤ b → f k x ≤ b) (hi : ∀ x, f i x ≤ b) : ∀ n, i < n → fo f a n ≤ b
  | 0, h => absurd h (Nat.not_lt_zero _)
  | n + 1, h => by
    show f n (fo f a n) ≤ b
    by_cases q : i = n
    · rw [← q]; exact hi _
    · exact hm _ _ (fo_gz hm hi n (by omega))
theorem bz_m {n rl ex c b : Nat} {B : Nat → Nat} (k x : Nat) (h : b ≤ x) : b ≤ bz n rl ex c B k x := by
  unfold bz
  split
  · exact Nat.le_trans h (Nat.le_max_left _ _)
  · exact h
theorem fz_m {n rl ex c b : Nat} {B : Nat → Nat} (k x : Nat) (h : x ≤ b) : fz n rl ex c B k x ≤ b := by
  unfold fz
  split
  · exact Nat.le_trans (Nat.min_le_left _ _) h
  · exact h
theorem bs_up {n rl ex f c i b : Nat} (hi : i < n) (hl : lg n ex c i = 1) (ho : lo (mvc n rl c i) = 0) (h : b ≤ bs n rl ex f (mvc n rl c i)) : b ≤ bs n rl ex (f + 1) c := by
  refine fo_gx (i := i) bz_m (fun x => ?_) n hi
  unfold bz
  rw [if_pos hl, if_neg (by omega)]
  exact Nat.le_trans h (Nat.le_max_right _ _)
theorem fs_up {n rl ex f c i b : Nat} (hi : i < n) (hl : lg n ex c i = 1) (ho : lo (mvc n rl c i) = 0) (h : fs n rl ex f (mvc n rl c i) ≤ b) : fs n rl ex (f + 1) c ≤ b + 1 := by
  refine fo_gz (i := i) fz_m (fun x => ?_) n hi
  unfold fz
  rw [if_pos ⟨hl, ho⟩]
  exact Nat.le_trans (Nat.min_le_right _ _) (Nat.succ_le_succ h)
theorem bs_a {n rl ex : Nat} : ∀ f c, dg c n ≤ bs n rl ex f c
  | 0, _ => Nat.le_refl _
  | f + 1, c => fo_gy (Nat.le_refl _) bz_m n
theorem fs_a {n rl ex : Nat} : ∀ f c, fs n rl ex f c ≤ f0 n c
  | 0, _ => Nat.le_refl _
  | f + 1, c => fo_le (Nat.le_refl _) n (fun k x _ hx => fz_m k x hx)
theorem fs_1 {n rl ex : Nat} : ∀ f c, ¬ sm c n = 0 → 0 < fs n rl ex f c
  | 0, c, h => by show 0 < f0 n c; unfold f0; rw [if_neg h]; decide
  | f + 1, c, h => by
    refine fo_gy (b := 1) (by unfold f0; rw [if_neg h]; decide) (fun k x hx => ?_) n
    unfold fz
    split
    · exact Nat.le_min.mpr ⟨hx, Nat.succ_le_succ (Nat.zero_le _)⟩
    · exact hx
theorem bs_leu {n rl ex u : Nat} : ∀ f c, Gd n u c → bs n rl ex f c ≤ u
  | 0, c, h => Gd_dg h (Nat.le_refl _)
  | f + 1, c, h => by
    refine fo_le (Gd_dg h (Nat.le_refl _)) n (fun k x hk hx => ?_)
    unfold bz
    by_cases q : lg n ex c k = 1
    · obtain ⟨a1, a2⟩ := Gd_mv (rl := rl) h hk (lg_e q).2 (lg_e q).1
      rw [if_pos q]
      refine Nat.max_le.mpr ⟨hx, ?_⟩
      split
      · exact Gd_dg a1 (Nat.le_refl _)
      · exact bs_leu f _ a1
    · rw [if_neg q]; exact hx
theorem ex_lg {n ex c i : Nat} (h1 : lo c = 0) (h2 : 0 < dg c i) (h3 : (i + dg c i) % (n + 1) = n) : lg n ex c i = 1 := by
  unfold lg
  rw [if_pos ⟨h1, h2, Or.inr h3⟩]
theorem ex_lo0 : ∀ n, n < 7 → ∀ s, s < 15 → ∀ k, k < 16 → ∀ lv, lv < 2 → (Nat.blt 15 (s + k) || Nat.beq (lo (eC n s k lv)) 0) = true := by decide +kernel
theorem ex_lo (n : Nat) (h7 : n < 7) (s : Nat) (hs : s < 15) (k : Nat) (hk : k < 16) (h : s + k ≤ 15) (lv : Nat) (hl : lv < 2) : lo (eC n s k lv) = 0 := by
  have key := ex_lo0 n h7 s hs k hk lv hl
  have hb : Nat.blt 15 (s + k) = false := by
    cases z : Nat.blt 15 (s + k)
    · rfl
    · exact absurd (oz_lt_e z) (by omega)
  rw [hb] at key
  exact Nat.eq_of_beq_eq_true key
theorem ex_bs {n rl ex lv : Nat} (h2 : 2 ≤ n) (h6 : n ≤ 6) (hl : lv ≤ 1) (hr : rl ≤ 1) : ∀ s f k, s ≤ f → s + k ≤ 14 → fa (xf s) 6 ≤ n → s + k ≤ bs n rl ex f (eC n s k lv) ∧ fs n rl ex f (eC n s k lv) ≤ s
  | 0, f, k, _, hk, _ => by
    obtain ⟨a1, a2⟩ := ex_0 n (by omega) k (by omega) lv (by omega)
    refine ⟨?_, ?_⟩
    · have := bs_a (n := n) (rl := rl) (ex := ex) f (eC n 0 k lv)
      omega
    · have := fs_a (n := n) (rl := rl) (ex := ex) f (eC n 0 k lv)
      unfold f0 at this
      rw [if_pos a2] at this
      exact this
  | s + 1, 0, k, h, _, _ => by omega
  | s + 1, f + 1, k, h, hk, hf => by
    obtain ⟨⟨b0, b1⟩, b2, b3, b4, b5⟩ := ex_mv (rl := rl) h2 h6 (show s + 1 < 15 by omega) (Nat.succ_pos _) hf hk hl hr
    have b2 : mvc n rl (eC n (s + 1) k lv) (n - eF (s + 1)) = eC n s (k + 1) lv := b2
    have hfa := (ex_fa (s + 1) (by omega) (Nat.succ_pos _)).1
    have hfa : fa (xf s) 6 ≤ fa (xf (s + 1)) 6 := hfa
    obtain ⟨c1, c2⟩ := ex_bs (ex := ex) h2 h6 hl hr s f (k + 1) (by omega) (by omega) (by omega)
    have ho := ex_lo n (by omega) s (by omega) (k + 1) (by omega) (by omega) lv (by omega)
    have hlg := ex_lg (ex := ex) b3 b4 b5
    refine ⟨bs_up (i := n - eF (s + 1)) (by omega) hlg (by rw [b2]; exact ho) (by rw [b2]; omega), fs_up (i := n - eF (s + 1)) (by omega) hlg (by rw [b2]; exact ho) (by rw [b2]; exact c2)⟩
theorem ex_mf {n rl ex lv s u : Nat} (h2 : 2 ≤ n) (h6 : n ≤ 6) (hl : lv ≤ 1) (hr : rl ≤ 1) (hs : s < 15) (h0 : 0 < s) (hf : fa (xf s) 6 ≤ n) (hg : Gd n u (tr (xf s) n n + lvb lv)) : mf n rl ex (tr (xf s) n n + lvb lv) = s ∧ ∃ w, ff n rl ex (tr (xf s) n n + lvb lv) = nI w ∧ 0 < w ∧ w < 63 := by
  obtain ⟨f1, f2, f3, f4, f5⟩ := ex_f n (by omega) h2 s hs h0 hf lv (by omega)
  have e : eC n s 0 lv = tr (xf s) n n + lvb lv := by unfold eC; rw [Nat.zero_mul, Nat.add_zero]
  obtain ⟨c1, c2⟩ := ex_bs (ex := ex) h2 h6 hl hr s 16 0 (by omega) (by omega) hf
  rw [e] at c1 c2
  have hu : u = s := by
    have : sm (tr (xf s) n n + lvb lv) (n + 1) = u := hg.1.2
    have h1 : sm (tr (xf s) n n + lvb lv) (n + 1) = sm (tr (xf s) n n + lvb lv) n + dg (tr (xf s) n n + lvb lv) n := rfl
    omega
  have hb := bs_leu (rl := rl) (ex := ex) 16 _ hg
  have h1 := fs_1 (rl := rl) (ex := ex) 16 _ f3
  refine ⟨?_, fs n rl ex 16 (tr (xf s) n n + lvb lv), ?_, h1, by omega⟩
  · unfold mf
    rw [if_neg (by omega)]
    unfold Bv
    omega
  · unfold ff Fw
    rw [if_neg (by omega), if_neg (by omega)]
