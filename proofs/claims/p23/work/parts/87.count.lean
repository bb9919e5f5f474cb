/-! mathematics: how many positions come, by a table -/
noncomputable def nthG {α : Type} (d : α) (l : List α) : Nat → α := List.rec (fun _ => d) (fun a _ ih i => Nat.rec a (fun j _ => ih j) i) l
abbrev Tr : Type := List (List (List (List Nat)))
noncomputable def entF (tab : Tr) (v : Nat) : Nat :=
  (fun x0 x1 x2 x3 x4 x5 => (fun r => Nat.mod (Nat.shiftRight (nthG 0 (nthG [] (nthG [] (nthG [] tab x0) x1) x2) x3) (Nat.mul 24 (Nat.sub (Nat.add x4 (Nat.mul x5 (Nat.succ r))) (Nat.div (Nat.mul x5 (Nat.pred x5)) 2)))) 16777216) (Nat.sub 14 (Nat.add (Nat.add x0 x1) (Nat.add x2 x3)))) (dgF v 0) (dgF v 1) (dgF v 2) (dgF v 3) (dgF v 4) (dgF v 5)
noncomputable def sF0 (tab : Tr) (n n1 rl M v k : Nat) : Nat := Nat.rec 0 (fun i s => Nat.add s (Bool.rec ((fun r => Bool.rec 0 (Nat.mod (entF tab (Nat.div r 2)) 1024) (Nat.beq (Nat.mod r 2) 1)) (mvG n n1 rl M 1000 v i)) 0 (Nat.beq (dgF v i) 0))) k
noncomputable def sF1 (tab : Tr) (n n1 rl M v k : Nat) : Nat := Nat.rec 0 (fun i s => Nat.add s (Bool.rec ((fun r => Bool.rec (Nat.mod (entF tab (Nat.div r 2)) 1024) (Nat.div (entF tab (Nat.div r 2)) 1024) (Nat.beq (Nat.mod r 2) 1)) (mvG n n1 rl M 1000 v i)) 0 (Nat.beq (dgF v i) 0))) k
noncomputable def elF (v : Nat) (E : List Nat) : Bool := List.rec false (fun a _ s => Bool.or (Nat.beq a v) s) E
noncomputable def chkF (tab : Tr) (E : List Nat) (n n1 rl M v : Nat) : Bool := Bool.and (Bool.and (Nat.ble (Nat.succ (sF0 tab n n1 rl M v n)) (Nat.mod (entF tab v) 1024)) (Nat.ble (Nat.succ (sF1 tab n n1 rl M v n)) (Nat.div (entF tab v) 1024))) (Bool.or (Nat.ble (Nat.div (entF tab v) 1024) 4095) (elF v E))
noncomputable def allF (tab : Tr) (E : List Nat) (n n1 rl M d : Nat) : Nat → Nat → Nat → Bool :=
  Nat.rec (fun _ _ p => chkF tab E n n1 rl M p) (fun _ ih i r p => Nat.rec (ih (Nat.succ i) r p) (fun x s => Bool.and s (ih (Nat.succ i) (Nat.sub r (Nat.succ x)) (Nat.add p (Nat.mul (Nat.succ x) (Nat.pow 16 i))))) r) d
theorem band {a b : Bool} (h : Bool.and a b = true) : a = true ∧ b = true := by cases a <;> cases b <;> first | exact ⟨rfl, rfl⟩ | cases h
theorem bor {a b : Bool} (h : Bool.or a b = true) : a = true ∨ b = true := by
  cases a
  · exact Or.inr h
  · exact Or.inl rfl
theorem elF_in {v : Nat} : ∀ E : List Nat, elF v E = true → v ∈ E
  | [], h => by cases h
  | a :: E, h => by
    have h : Bool.or (Nat.beq a v) (elF v E) = true := h
    rcases bor h with q | q
    · rw [Nat.eq_of_beq_eq_true q]; exact List.mem_cons_self
    · exact List.mem_cons_of_mem _ (elF_in E q)
theorem dg_s (q j : Nat) : dg q (j + 1) = dg (q / 16) j := by
  unfold dg
  rw [Nat.pow_succ, Nat.mul_comm, ← Nat.div_div_eq_div_mul]
theorem sm_sh (q : Nat) : ∀ d, sm q (d + 1) = dg q 0 + sm (q / 16) d
  | 0 => by show 0 + dg q 0 = dg q 0 + 0; omega
  | d + 1 => by
    have h := sm_sh q d
    show sm q (d + 1) + dg q (d + 1) = dg q 0 + (sm (q / 16) d + dg (q / 16) d)
    rw [h, dg_s]
    omega
theorem rec_and {a : Bool} {B : Nat → Bool} : ∀ m, (Nat.rec a (fun x s => Bool.and s (B x)) m : Bool) = true → a = true ∧ ∀ x, x < m → B x = true
  | 0, h => ⟨h, fun x hx => absurd hx (Nat.not_lt_zero _)⟩
  | m + 1, h => by
    obtain ⟨h1, h2⟩ := band h
    obtain ⟨h3, h4⟩ := rec_and m h1
    refine ⟨h3, fun x hx => ?_⟩
    by_cases q : x = m
    · rw [q]; exact h2
    · exact h4 x (by omega)
theorem allF_ok {tab : Tr} {E : List Nat} {n n1 rl M : Nat} : ∀ d i r p, allF tab E n n1 rl M d i r p = true → ∀ q, q < 16 ^ d → sm q d ≤ r → chkF tab E n n1 rl M (p + q * 16 ^ i) = true
  | 0, i, r, p, h, q, hq, hs => by
    have : q = 0 := by rw [Nat.pow_zero] at hq; omega
    rw [this, Nat.zero_mul, Nat.add_zero]
    exact h
  | d + 1, i, r, p, h, q, hq, hs => by
    obtain ⟨h1, h2⟩ := rec_and (a := allF tab E n n1 rl M d (i + 1) r p) (B := fun x => allF tab E n n1 rl M d (i + 1) (r - (x + 1)) (p + (x + 1) * 16 ^ i)) r h
    rw [sm_sh] at hs
    have e0 : dg q 0 = q % 16 := by unfold dg; rw [Nat.pow_zero, Nat.div_one]
    have hx : allF tab E n n1 rl M d (i + 1) (r - dg q 0) (p + dg q 0 * 16 ^ i) = true := by
      cases z : dg q 0 with
      | zero => rw [Nat.zero_mul, Nat.add_zero, Nat.sub_zero]; exact h1
      | succ x => exact h2 x (by omega)
    have hq2 : q / 16 < 16 ^ d := by
      rw [Nat.pow_succ] at hq
      exact Nat.div_lt_of_lt_mul (by rw [Nat.mul_comm]; exact hq)
    have := allF_ok d (i + 1) _ _ hx (q / 16) hq2 (by omega)
    have e : p + dg q 0 * 16 ^ i + q / 16 * 16 ^ (i + 1) = p + q * 16 ^ i := by
      have hq3 := Nat.div_add_mod q 16
      rw [← e0] at hq3
      conv => rhs; rw [← hq3]
      rw [Nat.add_mul, Nat.pow_succ, Nat.mul_comm 16 (q / 16), Nat.mul_assoc, Nat.mul_comm 16 (16 ^ i)]
      omega
    rw [e] at this
    exact this
theorem allF_15 {tab : Tr} {E : List Nat} {n n1 rl M d : Nat} (h : ∀ x, x < 15 → allF tab E n n1 rl M d 1 (14 - x) x = true) (v : Nat) (hv : v < 16 ^ (d + 1)) (hs : sm v (d + 1) ≤ 14) : chkF tab E n n1 rl M v = true := by
  rw [sm_sh] at hs
  have e0 : dg v 0 = v % 16 := by unfold dg; rw [Nat.pow_zero, Nat.div_one]
  have hq2 : v / 16 < 16 ^ d := by
    rw [Nat.pow_succ] at hv
    exact Nat.div_lt_of_lt_mul (by rw [Nat.mul_comm]; exact hv)
  have := allF_ok d 1 _ _ (h (dg v 0) (by omega)) (v / 16) hq2 (by omega)
  have hq3 := Nat.div_add_mod v 16
  rw [show dg v 0 + v / 16 * 16 ^ 1 = v by rw [e0, Nat.pow_one]; omega] at this
  exact this
def Hbt (n rl ex c t : Nat) : Prop := ∀ L : List Nat, L.Nodup → (∀ x, x ∈ L → Rch n rl ex c x) → L.length ≤ t
noncomputable def tv (tab : Tr) (l v : Nat) : Nat := if l = 1 then entF tab v / 1024 else entF tab v % 1024
noncomputable def sv (tab : Tr) (n rl l v k : Nat) : Nat := if l = 1 then sF1 tab n (n + 1) rl (16 ^ n) v k else sF0 tab n (n + 1) rl (16 ^ n) v k
theorem flt_len (p : Nat → Bool) : ∀ L : List Nat, L.length = (L.filter p).length + (L.filter (fun x => !p x)).length
  | [] => rfl
  | a :: L => by
    have h := flt_len p L
    cases z : p a with
    | true =>
      rw [List.filter_cons_of_pos z, List.filter_cons_of_neg (by rw [z]; decide), List.length_cons, List.length_cons]
      omega
    | false =>
      rw [List.filter_cons_of_neg (by rw [z]; decide), List.filter_cons_of_pos (by rw [z]; rfl), List.length_cons, List.length_cons]
      omega
theorem flt_nd (p : Nat → Bool) {L : List Nat} (h : L.Nodup) : (L.filter p).Nodup := List.Pairwise.filter p h
theorem Rk_front {n rl ex c : Nat} : ∀ d x, Rk n rl ex c (d + 1) x → ∃ i, i < n ∧ lg n ex c i = 1 ∧ lo (mvc n rl c i) = 0 ∧ Rk n rl ex (mvc n rl c i) d x
  | 0, x, h => by
    obtain ⟨y, i, h1, h2, h3, h4, h5⟩ := h
    have h1 : y = c := h1
    rw [h1] at h3 h4
    exact ⟨i, h2, h3, by rw [← h4]; exact h5, h4⟩
  | d + 1, x, h => by
    obtain ⟨y, j, h1, h2, h3, h4, h5⟩ := h
    obtain ⟨i, a1, a2, a3, a4⟩ := Rk_front d y h1
    exact ⟨i, a1, a2, a3, y, j, a4, h2, h3, h4, h5⟩
theorem beq_z {a : Nat} (h : 0 < a) : Nat.beq a 0 = false := beq_ne (by omega)
theorem sv_s {tab : Tr} {n rl l v k : Nat} : sv tab n rl l v k ≤ sv tab n rl l v (k + 1) := by
  unfold sv
  split
  · exact Nat.le_add_right _ _
  · exact Nat.le_add_right _ _
theorem sv_1 {tab : Tr} {n rl v k w e : Nat} (hd : 0 < dg v k) (he : e ≤ 1) (hr : mvG n (n + 1) rl (16 ^ n) 1000 v k = 2 * w + e) : sv tab n rl 1 v (k + 1) = sv tab n rl 1 v k + tv tab e w := by
  unfold sv
  rw [if_pos rfl, if_pos rfl]
  show sF1 tab n (n + 1) rl (16 ^ n) v k + (Bool.rec (Bool.rec (entF tab (mvG n (n + 1) rl (16 ^ n) 1000 v k / 2) % 1024) (entF tab (mvG n (n + 1) rl (16 ^ n) 1000 v k / 2) / 1024) (Nat.beq (mvG n (n + 1) rl (16 ^ n) 1000 v k % 2) 1)) 0 (Nat.beq (dg v k) 0)) = _
  rw [beq_z hd, hr, show (2 * w + e) / 2 = w by omega, show (2 * w + e) % 2 = e by omega]
  unfold tv
  by_cases q : e = 1
  · rw [if_pos q, q]; rfl
  · rw [if_neg q, show e = 0 by omega]; rfl
theorem sv_0 {tab : Tr} {n rl v k w : Nat} (hd : 0 < dg v k) (hr : mvG n (n + 1) rl (16 ^ n) 1000 v k = 2 * w + 1) : sv tab n rl 0 v (k + 1) = sv tab n rl 0 v k + tv tab 0 w := by
  unfold sv
  rw [if_neg (by decide), if_neg (by decide)]
  show sF0 tab n (n + 1) rl (16 ^ n) v k + (Bool.rec (Bool.rec 0 (entF tab (mvG n (n + 1) rl (16 ^ n) 1000 v k / 2) % 1024) (Nat.beq (mvG n (n + 1) rl (16 ^ n) 1000 v k % 2) 1)) 0 (Nat.beq (dg v k) 0)) = _
  rw [beq_z hd, hr, show (2 * w + 1) / 2 = w by omega, show (2 * w + 1) % 2 = 1 by omega]
  unfold tv
  rw [if_neg (by decide)]
  rfl
theorem chk_l {tab : Tr} {E : List Nat} {n rl l v : Nat} (h : chkF tab E n (n + 1) rl (16 ^ n) v = true) (hl : l ≤ 1) : 1 + sv tab n rl l v n ≤ tv tab l v := by
  obtain ⟨h1, -⟩ := band h
  obtain ⟨h2, h3⟩ := band h1
  have h2 : sF0 tab n (n + 1) rl (16 ^ n) v n + 1 ≤ entF tab v % 1024 := Nat.le_of_ble_eq_true h2
  have h3 : sF1 tab n (n + 1) rl (16 ^ n) v n + 1 ≤ entF tab v / 1024 := Nat.le_of_ble_eq_true h3
  unfold sv tv
  by_cases q : l = 1
  · rw [if_pos q, if_pos q]; omega
  · rw [if_neg q, if_neg q]; omega
theorem Hbt_T {tab : Tr} {E : List Nat} {n rl ex u : Nat} (hrl : rl ≤ 1) (hchk : ∀ v, v < 16 ^ n → sm v n ≤ 14 → chkF tab E n (n + 1) rl (16 ^ n) v = true) : ∀ b c, Gd n u c → lo c = 0 → pot n c ≤ b → Hbt n rl ex c (tv tab (lf c) (c % 16 ^ n))
  | 0, c, hg, h0, hb => by
    have := pot_lo (n := n) h0
    omega
  | b + 1, c, hg, h0, hb => by
    have hlf := lf_le (c := c)
    have hM : 0 < 16 ^ n := Nat.pow_pos (by decide)
    have hs1 : sm c n + dg c n = u := hg.1.2
    have hu := hg.2.1
    have hsv : sm (c % 16 ^ n) n = sm c n := sm_congr n (fun j hj => dg_mod hj)
    have part : ∀ k, k ≤ n → ∀ L : List Nat, L.Nodup → (∀ x, x ∈ L → ∃ i, i < k ∧ lg n ex c i = 1 ∧ lo (mvc n rl c i) = 0 ∧ Rch n rl ex (mvc n rl c i) x) → L.length ≤ sv tab n rl (lf c) (c % 16 ^ n) k := by
      intro k
      induction k with
      | zero =>
        intro _ L _ h
        cases L with
        | nil => exact Nat.zero_le _
        | cons a L =>
          obtain ⟨i, hi, -⟩ := h a List.mem_cons_self
          omega
      | succ k ih =>
        intro hk L hnd h
        by_cases hP : lg n ex c k = 1 ∧ lo (mvc n rl c k) = 0
        · have hd := (lg_e hP.1).2
          obtain ⟨m1, m2, m3, m4⟩ := mv_pits hg h0 hrl (show k < n by omega) hd
          obtain ⟨g1, g2⟩ := Gd_mv (rl := rl) hg (show k < n by omega) hd h0
          have hch := Hbt_T (ex := ex) hrl hchk b (mvc n rl c k) g1 hP.2 (by omega)
          have hdv : 0 < dg (c % 16 ^ n) k := by rw [dg_mod (by omega)]; exact hd
          have hs := flt_len (fun x => @decide (Rch n rl ex (mvc n rl c k) x) (Classical.propDecidable _)) L
          have l1 : (L.filter (fun x => @decide (Rch n rl ex (mvc n rl c k) x) (Classical.propDecidable _))).length ≤ tv tab (lf (mvc n rl c k)) (mvc n rl c k % 16 ^ n) := hch _ (flt_nd _ hnd) (fun x hx => by
            have := (List.mem_filter.mp hx).2
            exact @of_decide_eq_true _ (Classical.propDecidable _) this)
          have l2 := ih (by omega) _ (flt_nd (fun x => !@decide (Rch n rl ex (mvc n rl c k) x) (Classical.propDecidable _)) hnd) (fun x hx => by
            obtain ⟨x1, x2⟩ := List.mem_filter.mp hx
            obtain ⟨i, a1, a2, a3, a4⟩ := h x x1
            by_cases q : i = k
            · rw [q] at a4
              have x2 : (!@decide (Rch n rl ex (mvc n rl c k) x) (Classical.propDecidable _)) = true := x2
              rw [@decide_eq_true _ (Classical.propDecidable _) a4] at x2
              cases x2
            · exact ⟨i, by omega, a2, a3, a4⟩)
          have hsum : sv tab n rl (lf c) (c % 16 ^ n) (k + 1) = sv tab n rl (lf c) (c % 16 ^ n) k + tv tab (lf (mvc n rl c k)) (mvc n rl c k % 16 ^ n) := by
            have m4 := m4 hP.2
            rcases m3 with ⟨z, -⟩ | ⟨z, z2⟩
            · rw [z] at m4 ⊢
              rw [m4]
              exact sv_1 hdv (by split <;> decide) m1
            · have z2 := z2 hP.2
              rw [if_pos z2] at m1 m4
              rw [m4, z]
              exact sv_0 hdv m1
          omega
        · have l2 := ih (by omega) L hnd (fun x hx => by
            obtain ⟨i, a1, a2, a3, a4⟩ := h x hx
            by_cases q : i = k
            · rw [q] at a2 a3
              exact absurd ⟨a2, a3⟩ hP
            · exact ⟨i, by omega, a2, a3, a4⟩)
          exact Nat.le_trans l2 sv_s
    intro L hnd h
    have hs := flt_len (fun x => Nat.beq x c) L
    have l1 : (L.filter (fun x => Nat.beq x c)).length ≤ [c].length := nd_le _ _ (flt_nd _ hnd) (fun x hx => by
      have := (List.mem_filter.mp hx).2
      rw [Nat.eq_of_beq_eq_true this]
      exact List.mem_cons_self)
    have l2 := part n (Nat.le_refl _) _ (flt_nd (fun x => !Nat.beq x c) hnd) (fun x hx => by
      obtain ⟨x1, x2⟩ := List.mem_filter.mp hx
      obtain ⟨d, hd⟩ := h x x1
      cases d with
      | zero =>
        have hd : x = c := hd
        have x2 : (!Nat.beq x c) = true := x2
        rw [hd, Nat.beq_refl] at x2
        cases x2
      | succ d =>
        obtain ⟨i, a1, a2, a3, a4⟩ := Rk_front d x hd
        exact ⟨i, a1, a2, a3, d, a4⟩)
    have l3 := chk_l (rl := rl) (hchk (c % 16 ^ n) (Nat.mod_lt _ hM) (by omega)) hlf
    have : [c].length = 1 := rfl
    omega
/-- but for a few, whose pits are told, a start has few enough positions -/
theorem Hb_T {tab : Tr} {E : List Nat} {n rl ex u c : Nat} (hrl : rl ≤ 1) (hchk : ∀ v, v < 16 ^ n → sm v n ≤ 14 → chkF tab E n (n + 1) rl (16 ^ n) v = true) (hg : Gd n u c) (h0 : lo c = 0) (hE : lf c = 1 → c % 16 ^ n ∉ E) : Hb n rl ex c := by
  intro L h1 h2
  have hs1 : sm c n + dg c n = u := hg.1.2
  have hu := hg.2.1
  have hsv : sm (c % 16 ^ n) n = sm c n := sm_congr n (fun j hj => dg_mod hj)
  have h3 := Hbt_T (ex := ex) hrl hchk _ c hg h0 (Nat.le_refl _) L h1 h2
  have hk := hchk (c % 16 ^ n) (Nat.mod_lt _ (Nat.pow_pos (by decide))) (by omega)
  obtain ⟨-, k2⟩ := band hk
  refine Nat.le_trans h3 ?_
  unfold tv
  by_cases q : lf c = 1
  · rw [if_pos q]
    rcases bor k2 with z | z
    · exact Nat.le_of_ble_eq_true z
    · exact absurd (elF_in E z) (hE q)
  · rw [if_neg q]
    have := Nat.mod_lt (entF tab (c % 16 ^ n)) (show 0 < 1024 by decide)
    omega
