/-! the model's search: what a search position by position finds -/
theorem Rk_cons {n rl ex c i : Nat} (hi : i < n) (hl : lg n ex c i = 1) (ho : lo (mvc n rl c i) = 0) : ∀ d x, Rk n rl ex (mvc n rl c i) d x → Rk n rl ex c (d + 1) x
  | 0, x, h => ⟨c, i, rfl, hi, hl, h, by rw [show x = mvc n rl c i from h]; exact ho⟩
  | d + 1, x, h => by
    obtain ⟨y, j, h1, h2, h3, h4, h5⟩ := h
    exact ⟨y, j, Rk_cons hi hl ho d y h1, h2, h3, h4, h5⟩
theorem Rk_ok {n rl ex u c0 : Nat} (hg : Gd n u c0) (h0 : lo c0 = 0) : ∀ d x, Rk n rl ex c0 d x → Gd n u x ∧ lo x = 0 ∧ d + pot n x ≤ pot n c0
  | 0, x, h => by
    have h : x = c0 := h
    rw [h]
    exact ⟨hg, h0, by omega⟩
  | d + 1, x, h => by
    obtain ⟨c, i, h1, h2, h3, rfl, h5⟩ := h
    obtain ⟨a1, a2, a3⟩ := Rk_ok hg h0 d c h1
    obtain ⟨m1, m2⟩ := Gd_mv (rl := rl) a1 h2 (lg_e h3).2 a2
    exact ⟨m1, h5, by omega⟩
theorem fo_up {f : Nat → Nat → Nat} {a v k : Nat} (hm : ∀ k x, x ≤ f k x) (hv : ∀ x, v ≤ f k x) : ∀ n, k < n → v ≤ fo f a n
  | n + 1, hk => by
    by_cases q : k = n
    · subst q; exact hv _
    · exact Nat.le_trans (fo_up hm hv n (by omega)) (hm n _)
theorem fo_dn {f : Nat → Nat → Nat} {a v k : Nat} (hm : ∀ k x, f k x ≤ x) (hv : ∀ x, f k x ≤ v) : ∀ n, k < n → fo f a n ≤ v
  | n + 1, hk => by
    by_cases q : k = n
    · subst q; exact hv _
    · exact Nat.le_trans (hm n _) (fo_dn hm hv n (by omega))
theorem fo_dn0 {f : Nat → Nat → Nat} {a : Nat} (hm : ∀ k x, f k x ≤ x) : ∀ n, fo f a n ≤ a
  | 0 => Nat.le_refl _
  | n + 1 => Nat.le_trans (hm n _) (fo_dn0 hm n)
theorem bz_ge {n rl ex c : Nat} {B : Nat → Nat} (k x : Nat) : x ≤ bz n rl ex c B k x := by
  unfold bz
  split
  · exact Nat.le_max_left _ _
  · exact Nat.le_refl _
theorem fz_le {n rl ex c : Nat} {B : Nat → Nat} (k x : Nat) : fz n rl ex c B k x ≤ x := by
  unfold fz
  split
  · exact Nat.min_le_left _ _
  · exact Nat.le_refl _
theorem Bv_own {n rl ex u c : Nat} (hg : Gd n u c) : dg c n ≤ Bv n rl ex c := by
  rw [Bv_eq hg]
  exact fo_ge (fun k x => bz_ge k x) n
theorem Bv_st {n rl ex u c i : Nat} (hg : Gd n u c) (hi : i < n) (hl : lg n ex c i = 1) : (if lo (mvc n rl c i) = 1 then dg (mvc n rl c i) n else Bv n rl ex (mvc n rl c i)) ≤ Bv n rl ex c := by
  rw [Bv_eq (c := c) hg]
  refine fo_up (k := i) (fun k x => bz_ge k x) (fun x => ?_) n hi
  unfold bz
  rw [if_pos hl]
  exact Nat.le_max_right _ _
theorem Bv_path {n rl ex u c0 : Nat} (hg : Gd n u c0) (h0 : lo c0 = 0) : ∀ d x, Rk n rl ex c0 d x → Bv n rl ex x ≤ Bv n rl ex c0
  | 0, x, h => by rw [show x = c0 from h]; exact Nat.le_refl _
  | d + 1, x, h => by
    obtain ⟨c, i, h1, h2, h3, rfl, h5⟩ := h
    have h6 := Bv_st (rl := rl) (Rk_ok hg h0 d c h1).1 h2 h3
    rw [if_neg (by omega)] at h6
    exact Nat.le_trans h6 (Bv_path hg h0 d c h1)
theorem Fw_won {n rl ex u c : Nat} (hg : Gd n u c) (hs : sm c n = 0) : Fw n rl ex c = 0 := by
  have h1 : Fw n rl ex c ≤ f0 n c := by
    rw [Fw_eq hg]
    exact fo_dn0 (fun k x => fz_le k x) n
  have h2 : f0 n c = 0 := if_pos hs
  omega
theorem Fw_st {n rl ex u c i : Nat} (hg : Gd n u c) (hi : i < n) (hl : lg n ex c i = 1) (ho : lo (mvc n rl c i) = 0) : Fw n rl ex c ≤ Fw n rl ex (mvc n rl c i) + 1 := by
  rw [Fw_eq (c := c) hg]
  refine fo_dn (k := i) (fun k x => fz_le k x) (fun x => ?_) n hi
  unfold fz
  rw [if_pos ⟨hl, ho⟩]
  exact Nat.min_le_right _ _
theorem Fw_path {n rl ex u c0 : Nat} (hg : Gd n u c0) (h0 : lo c0 = 0) : ∀ d x, Rk n rl ex c0 d x → Fw n rl ex c0 ≤ d + Fw n rl ex x
  | 0, x, h => by rw [show x = c0 from h]; omega
  | d + 1, x, h => by
    obtain ⟨c, i, h1, h2, h3, rfl, h5⟩ := h
    have h6 := Fw_st (rl := rl) (Rk_ok hg h0 d c h1).1 h2 h3 h5
    have h7 := Fw_path hg h0 d c h1
    omega
theorem fz_cs {n rl ex c : Nat} {B : Nat → Nat} {a : Nat} : ∀ m, m ≤ n → fo (fz n rl ex c B) a m = a ∨ ∃ k, k < n ∧ lg n ex c k = 1 ∧ lo (mvc n rl c k) = 0 ∧ fo (fz n rl ex c B) a m = B (mvc n rl c k) + 1
  | 0, _ => Or.inl rfl
  | m + 1, hm => by
    have e : fo (fz n rl ex c B) a (m + 1) = if lg n ex c m = 1 ∧ lo (mvc n rl c m) = 0 then Nat.min (fo (fz n rl ex c B) a m) (B (mvc n rl c m) + 1) else fo (fz n rl ex c B) a m := rfl
    rw [e]
    by_cases q : lg n ex c m = 1 ∧ lo (mvc n rl c m) = 0
    · rw [if_pos q]
      by_cases q2 : fo (fz n rl ex c B) a m ≤ B (mvc n rl c m) + 1
      · rw [show Nat.min (fo (fz n rl ex c B) a m) (B (mvc n rl c m) + 1) = fo (fz n rl ex c B) a m from Nat.min_eq_left q2]
        exact fz_cs m (by omega)
      · rw [show Nat.min (fo (fz n rl ex c B) a m) (B (mvc n rl c m) + 1) = B (mvc n rl c m) + 1 from Nat.min_eq_right (by omega)]
        exact Or.inr ⟨m, by omega, q.1, q.2, rfl⟩
    · rw [if_neg q]
      exact fz_cs m (by omega)
theorem Fw_ex {n rl ex u : Nat} : ∀ b c, Gd n u c → lo c = 0 → pot n c ≤ b → Fw n rl ex c < 63 → ∃ x, Rk n rl ex c (Fw n rl ex c) x ∧ sm x n = 0
  | 0, c, hg, h0, hb, _ => by
    have := pot_lo (n := n) h0
    omega
  | b + 1, c, hg, h0, hb, hf => by
    rcases fz_cs (rl := rl) (ex := ex) (c := c) (B := Fw n rl ex) (a := f0 n c) n (Nat.le_refl _) with q | ⟨k, h1, h2, h3, h4⟩
    · rw [← Fw_eq hg] at q
      have hs : sm c n = 0 := by
        by_cases z : sm c n = 0
        · exact z
        · have : f0 n c = 63 := if_neg z
          omega
      have e : f0 n c = 0 := if_pos hs
      rw [q, e]
      exact ⟨c, rfl, hs⟩
    · rw [← Fw_eq hg] at h4
      obtain ⟨m1, m2⟩ := Gd_mv (rl := rl) hg h1 (lg_e h2).2 h0
      obtain ⟨x, a1, a2⟩ := Fw_ex b _ m1 h3 (by omega) (show Fw n rl ex (mvc n rl c k) < 63 by omega)
      rw [h4]
      exact ⟨x, Rk_cons h1 h2 h3 _ _ a1, a2⟩
/-- the queue while a search goes on: position number d, its pits up to k -/
def BI (n rl ex u c0 : Nat) (L : List Nat) (D : Nat → Nat) (d k : Nat) : Prop :=
  L.Nodup ∧ (∀ i, i < L.length → Gd n u (L.getD i 0) ∧ lo (L.getD i 0) = 0 ∧ Rk n rl ex c0 (D i) (L.getD i 0)) ∧ (0 < L.length ∧ L.getD 0 0 = c0 ∧ D 0 = 0) ∧ (∀ i j, i ≤ j → j < L.length → D i ≤ D j) ∧ (∀ i p, (i < d ∧ p < n ∨ i = d ∧ p < k) → lg n ex (L.getD i 0) p = 1 → lo (mvc n rl (L.getD i 0) p) = 0 → ∃ j, j < L.length ∧ L.getD j 0 = mvc n rl (L.getD i 0) p ∧ D j ≤ D i + 1) ∧ (d < L.length → ∀ j, j < L.length → D j ≤ D d + 1)
theorem mem_getD {L : List Nat} {x : Nat} (h : x ∈ L) : ∃ j, j < L.length ∧ L.getD j 0 = x := by
  obtain ⟨j, h1, h2⟩ := List.getElem_of_mem h
  exact ⟨j, h1, by rw [List.getD_eq_getElem?_getD, List.getElem?_eq_getElem h1]; exact h2⟩
theorem BI_0 {n rl ex u c0 : Nat} {D : Nat → Nat} (hg : Gd n u c0) (h0 : lo c0 = 0) : BI n rl ex u c0 [c0] (up D 0 0) 0 0 := by
  refine ⟨List.nodup_cons.mpr ⟨List.not_mem_nil, List.nodup_nil⟩, fun i hi => ?_, ⟨Nat.zero_lt_one, rfl, up_s⟩, fun i j hij hj => ?_, fun i p h => ?_, fun _ j hj => ?_⟩
  · have hi : i < 1 := hi
    have : i = 0 := by omega
    subst this
    rw [up_s]
    exact ⟨hg, h0, rfl⟩
  · have hj : j < 1 := hj
    rw [show i = j by omega]
    exact Nat.le_refl _
  · omega
  · have hj : j < 1 := hj
    rw [show j = 0 by omega]
    exact Nat.le_succ _
theorem BI_skip {n rl ex u c0 d k : Nat} {L : List Nat} {D : Nat → Nat} (h : BI n rl ex u c0 L D d k) (hs : ¬ (lg n ex (L.getD d 0) k = 1 ∧ lo (mvc n rl (L.getD d 0) k) = 0)) : BI n rl ex u c0 L D d (k + 1) := by
  obtain ⟨h1, h2, h3, h4, h5, h6⟩ := h
  refine ⟨h1, h2, h3, h4, fun i p hp hl ho => ?_, h6⟩
  by_cases q : i = d ∧ p = k
  · obtain ⟨rfl, rfl⟩ := q
    exact absurd ⟨hl, ho⟩ hs
  · exact h5 i p (by omega) hl ho
theorem BI_old {n rl ex u c0 d k : Nat} {L : List Nat} {D : Nat → Nat} (h : BI n rl ex u c0 L D d k) (hd : d < L.length) (hm : mvc n rl (L.getD d 0) k ∈ L) : BI n rl ex u c0 L D d (k + 1) := by
  obtain ⟨h1, h2, h3, h4, h5, h6⟩ := h
  refine ⟨h1, h2, h3, h4, fun i p hp hl ho => ?_, h6⟩
  by_cases q : i = d ∧ p = k
  · obtain ⟨rfl, rfl⟩ := q
    obtain ⟨j, a1, a2⟩ := mem_getD hm
    exact ⟨j, a1, a2, h6 hd j a1⟩
  · exact h5 i p (by omega) hl ho
theorem BI_new {n rl ex u c0 d k : Nat} {L : List Nat} {D : Nat → Nat} (h : BI n rl ex u c0 L D d k) (hd : d < L.length) (hk : k < n) (hl : lg n ex (L.getD d 0) k = 1) (ho : lo (mvc n rl (L.getD d 0) k) = 0) (hm : mvc n rl (L.getD d 0) k ∉ L) : BI n rl ex u c0 (L ++ [mvc n rl (L.getD d 0) k]) (up D L.length (D d + 1)) d (k + 1) := by
  obtain ⟨h1, h2, h3, h4, h5, h6⟩ := h
  obtain ⟨g1, g2, g3⟩ := h2 d hd
  obtain ⟨m1, m2⟩ := Gd_mv (rl := rl) g1 hk (lg_e hl).2 g2
  generalize hc : mvc n rl (L.getD d 0) k = c at ho hm m1
  have len : (L ++ [c]).length = L.length + 1 := by rw [List.length_append]; rfl
  have e1 : ∀ i, i < L.length → (L ++ [c]).getD i 0 = L.getD i 0 := fun i hi => getD_l hi
  have e2 : ∀ i, i < L.length → up D L.length (D d + 1) i = D i := fun i hi => up_n (by omega)
  have e3 : (L ++ [c]).getD L.length 0 = c := getD_r
  refine ⟨?_, fun i hi => ?_, ⟨by omega, by rw [e1 0 h3.1]; exact h3.2.1, by rw [e2 0 h3.1]; exact h3.2.2⟩, fun i j hij hj => ?_, fun i p hp hl' ho' => ?_, fun _ j hj => ?_⟩
  · refine List.nodup_append.mpr ⟨h1, List.nodup_cons.mpr ⟨List.not_mem_nil, List.nodup_nil⟩, fun a ha b hb z => ?_⟩
    rw [List.mem_singleton.mp hb] at z
    exact hm (z ▸ ha)
  · rw [len] at hi
    by_cases z : i = L.length
    · rw [z, e3, up_s]
      exact ⟨m1, ho, L.getD d 0, k, g3, hk, hl, hc.symm, ho⟩
    · rw [e1 i (by omega), e2 i (by omega)]
      exact h2 i (by omega)
  · rw [len] at hj
    by_cases z : j = L.length
    · rw [z, up_s]
      by_cases z2 : i = L.length
      · rw [z2, up_s]; exact Nat.le_refl _
      · rw [e2 i (by omega)]
        exact h6 hd i (by omega)
    · rw [e2 i (by omega), e2 j (by omega)]
      exact h4 i j hij (by omega)
  · have hi : i < L.length := by omega
    rw [e1 i hi] at hl' ho' ⊢
    rw [e2 i hi, len]
    by_cases q : i = d ∧ p = k
    · obtain ⟨rfl, rfl⟩ := q
      exact ⟨L.length, Nat.lt_succ_self _, by rw [e3, hc], by rw [up_s]; exact Nat.le_refl _⟩
    · obtain ⟨j, a1, a2, a3⟩ := h5 i p (by omega) hl' ho'
      exact ⟨j, by omega, by rw [e1 j a1]; exact a2, by rw [e2 j a1]; exact a3⟩
  · rw [len] at hj
    rw [e2 d hd]
    by_cases z : j = L.length
    · rw [z, up_s]; exact Nat.le_refl _
    · rw [e2 j (by omega)]
      exact h6 hd j (by omega)
theorem BI_next {n rl ex u c0 d : Nat} {L : List Nat} {D : Nat → Nat} (h : BI n rl ex u c0 L D d n) (hd : d < L.length) : BI n rl ex u c0 L D (d + 1) 0 := by
  obtain ⟨h1, h2, h3, h4, h5, h6⟩ := h
  refine ⟨h1, h2, h3, h4, fun i p hp => h5 i p (by omega), fun hd1 j hj => ?_⟩
  have a1 := h6 hd j hj
  have a2 := h4 d (d + 1) (Nat.le_succ _) hd1
  omega
theorem BI_mem {n rl ex u c0 d k x : Nat} {L : List Nat} {D : Nat → Nat} (h : BI n rl ex u c0 L D d k) (hx : x ∈ L) : Gd n u x ∧ lo x = 0 ∧ Rch n rl ex c0 x := by
  obtain ⟨j, a1, a2⟩ := mem_getD hx
  obtain ⟨b1, b2, b3⟩ := h.2.1 j a1
  rw [a2] at b1 b2 b3
  exact ⟨b1, b2, _, b3⟩
theorem BI_len {n rl ex u c0 d k : Nat} {L : List Nat} {D : Nat → Nat} (h : BI n rl ex u c0 L D d k) (hb : Hb n rl ex c0) : L.length ≤ 4095 := hb L h.1 (fun x hx => (BI_mem h hx).2.2)
theorem BI_end {n rl ex u c0 : Nat} {L : List Nat} {D : Nat → Nat} (h : BI n rl ex u c0 L D L.length 0) : ∀ k x, Rk n rl ex c0 k x → ∃ j, j < L.length ∧ L.getD j 0 = x ∧ D j ≤ k
  | 0, x, hx => ⟨0, h.2.2.1.1, by rw [show x = c0 from hx]; exact h.2.2.1.2.1, by rw [h.2.2.1.2.2]; exact Nat.le_refl _⟩
  | k + 1, x, hx => by
    obtain ⟨c, i, h1, h2, h3, rfl, h5⟩ := hx
    obtain ⟨j, a1, a2, a3⟩ := BI_end h k c h1
    obtain ⟨j', b1, b2, b3⟩ := h.2.2.2.2.1 j i (Or.inl ⟨a1, h2⟩) (by rw [a2]; exact h3) (by rw [a2]; exact h5)
    rw [a2] at b2
    exact ⟨j', b1, b2, by omega⟩
theorem BI_all {n rl ex u c0 : Nat} {L : List Nat} {D : Nat → Nat} (h : BI n rl ex u c0 L D L.length 0) (x : Nat) : x ∈ L ↔ Rch n rl ex c0 x := by
  refine ⟨fun hx => (BI_mem h hx).2.2, fun ⟨k, hk⟩ => ?_⟩
  obtain ⟨j, a1, a2, -⟩ := BI_end h k x hk
  rw [← a2]
  exact getD_m a1
/-- the best store so far -/
def BM (n rl ex c0 : Nat) (L : List Nat) (B e d k : Nat) : Prop := (∀ i, i < e → i < L.length → dg (L.getD i 0) n ≤ B) ∧ (∀ i p, i < L.length → (i < d ∧ p < n ∨ i = d ∧ p < k) → lg n ex (L.getD i 0) p = 1 → lo (mvc n rl (L.getD i 0) p) = 1 → dg (mvc n rl (L.getD i 0) p) n ≤ B) ∧ B ≤ Bv n rl ex c0
theorem BM_app {n rl ex c0 c B e d k : Nat} {L : List Nat} (h : BM n rl ex c0 L B e d k) (he : e ≤ L.length) (hd : d < L.length) : BM n rl ex c0 (L ++ [c]) B e d k := by
  refine ⟨fun i h1 h2 => ?_, fun i p h1 h2 => ?_, h.2.2⟩
  · rw [getD_l (by omega)]; exact h.1 i h1 (by omega)
  · rw [getD_l (by omega)]; exact h.2.1 i p (by omega) h2
theorem BM_end {n rl ex u c0 B : Nat} {L : List Nat} {D : Nat → Nat} (hI : BI n rl ex u c0 L D L.length 0) (h : BM n rl ex c0 L B L.length L.length 0) : B = Bv n rl ex c0 := by
  refine Nat.le_antisymm h.2.2 ?_
  have key : ∀ b x, pot n x ≤ b → x ∈ L → Bv n rl ex x ≤ B := by
    intro b
    induction b with
    | zero =>
      intro x hb hx
      have := pot_lo (n := n) (BI_mem hI hx).2.1
      omega
    | succ b ih =>
      intro x hb hx
      obtain ⟨g1, g2, g3⟩ := BI_mem hI hx
      obtain ⟨j, a1, a2⟩ := mem_getD hx
      rw [Bv_eq g1]
      refine fo_le (by rw [← a2]; exact h.1 j a1 a1) n (fun k y hk hy => ?_)
      unfold bz
      by_cases q : lg n ex x k = 1
      · rw [if_pos q]
        refine Nat.max_le.mpr ⟨hy, ?_⟩
        obtain ⟨m1, m2⟩ := Gd_mv (rl := rl) g1 hk (lg_e q).2 g2
        by_cases z : lo (mvc n rl x k) = 1
        · rw [if_pos z]
          have := h.2.1 j k a1 (Or.inl ⟨a1, hk⟩)
          rw [a2] at this
          exact this q z
        · rw [if_neg z]
          have hlo := lo_le (c := mvc n rl x k)
          refine ih _ (by omega) ?_
          obtain ⟨j', b1, b2, b3⟩ := hI.2.2.2.2.1 j k (Or.inl ⟨a1, hk⟩) (by rw [a2]; exact q) (by rw [a2]; omega)
          rw [a2] at b2
          rw [← b2]
          exact getD_m b1
      · rw [if_neg q]; exact hy
  refine key _ c0 (Nat.le_refl _) ?_
  rw [← hI.2.2.1.2.1]
  exact getD_m hI.2.2.1.1
/-- the fewest moves so far -/
def FM (n : Nat) (L : List Nat) (D : Nat → Nat) (F : Option Nat) (e : Nat) : Prop := (F = none → ∀ i, i < e → sm (L.getD i 0) n ≠ 0) ∧ ∀ m, F = some m → ∃ i, i < e ∧ D i = m ∧ sm (L.getD i 0) n = 0
theorem FM_end {n rl ex u c0 : Nat} {L : List Nat} {D : Nat → Nat} {F : Option Nat} (hI : BI n rl ex u c0 L D L.length 0) (hg : Gd n u c0) (h0 : lo c0 = 0) (h : FM n L D F L.length) (hmin : ∀ m, F = some m → ∀ i, i < L.length → sm (L.getD i 0) n = 0 → m ≤ D i) : fI F = if Fw n rl ex c0 = 63 then oz_c (-6) else nI (Fw n rl ex c0) := by
  cases F with
  | none =>
    have hF : Fw n rl ex c0 = 63 := by
      have h63 := fs_le (n := n) (rl := rl) (ex := ex) 16 c0
      have h63 : Fw n rl ex c0 ≤ 63 := h63
      rcases Nat.lt_or_ge (Fw n rl ex c0) 63 with q | q
      · obtain ⟨x, a1, a2⟩ := Fw_ex _ c0 hg h0 (Nat.le_refl _) q
        obtain ⟨j, b1, b2, -⟩ := BI_end hI _ x a1
        exact absurd (by rw [b2]; exact a2) (h.1 rfl j b1)
      · omega
    rw [if_pos hF]
    rfl
  | some m =>
    obtain ⟨i, a1, a2, a3⟩ := h.2 m rfl
    obtain ⟨b1, b2, b3⟩ := hI.2.1 i a1
    obtain ⟨c1, c2, c3⟩ := Rk_ok hg h0 _ _ b3
    have hp := pot16 hg
    have hle := Fw_path hg h0 _ _ b3
    rw [Fw_won b1 a3] at hle
    have hlt : Fw n rl ex c0 < 63 := by omega
    obtain ⟨x, d1, d2⟩ := Fw_ex _ c0 hg h0 (Nat.le_refl _) hlt
    obtain ⟨j, e1, e2, e3⟩ := BI_end hI _ x d1
    have := hmin m rfl j e1 (by rw [e2]; exact d2)
    rw [if_neg (by omega)]
    show nI m = nI _
    congr 1
    omega
