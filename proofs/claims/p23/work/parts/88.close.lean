/-! mathematics: positions that come, told by a list -/
noncomputable def memB (Bk : List (List (List Nat))) (q : Nat) : Bool := elF q (nthG [] (nthG [] Bk (Nat.mod q 16)) (Nat.mod (Nat.div q 16) 16))
noncomputable def alL {α : Type} (f : α → Bool) (l : List α) : Bool := List.rec true (fun a _ s => Bool.and (f a) s) l
noncomputable def suL {α : Type} (f : α → Nat) (l : List α) : Nat := List.rec 0 (fun a _ s => Nat.add (f a) s) l
noncomputable def chG (Bk : List (List (List Nat))) (n n1 rl M m v l : Nat) : Bool :=
  Nat.rec true (fun i s => Bool.and s (Bool.rec ((fun r => Bool.rec (Bool.or (Nat.beq l 0) (memB Bk (Nat.div r 2))) (memB Bk (Nat.add (Nat.div r 2) (Nat.mul l m))) (Nat.beq (Nat.mod r 2) 1)) (mvG n n1 rl M 1000 v i)) true (Nat.beq (dgF v i) 0))) n
noncomputable def chF (Bk : List (List (List Nat))) (n n1 rl M m q : Nat) : Bool := chG Bk n n1 rl M m (Nat.mod q m) (Nat.div q m)
noncomputable def clF (Bk : List (List (List Nat))) (n n1 rl M m : Nat) : Bool := Bool.and (alL (alL (alL (chF Bk n n1 rl M m))) Bk) (Nat.ble (suL (suL List.length) Bk) 4095)
theorem alL_in {α : Type} {f : α → Bool} : ∀ {l : List α}, alL f l = true → ∀ a, a ∈ l → f a = true
  | [], _, a, h => by cases h
  | b :: l, h, a, ha => by
    obtain ⟨h1, h2⟩ := band (a := f b) (b := alL f l) h
    rcases List.mem_cons.mp ha with q | q
    · rw [q]; exact h1
    · exact alL_in h2 a q
theorem suL_fl {α : Type} : ∀ l : List (List α), suL List.length l = l.flatten.length
  | [] => rfl
  | a :: l => by
    show a.length + suL List.length l = _
    rw [suL_fl l, List.flatten_cons, List.length_append]
theorem suL_f2 : ∀ l : List (List (List Nat)), suL (suL List.length) l = l.flatten.flatten.length
  | [] => rfl
  | a :: l => by
    show suL List.length a + suL (suL List.length) l = _
    rw [suL_f2 l, suL_fl a, List.flatten_cons, List.flatten_append, List.length_append]
theorem nthG_in {α : Type} {d : α} : ∀ (l : List α) (i : Nat), nthG d l i = d ∨ nthG d l i ∈ l
  | [], _ => Or.inl rfl
  | a :: l, 0 => Or.inr List.mem_cons_self
  | a :: l, i + 1 => (nthG_in l i).elim Or.inl (fun h => Or.inr (List.mem_cons_of_mem _ h))
theorem memB_in {Bk : List (List (List Nat))} {q : Nat} (h : memB Bk q = true) : q ∈ Bk.flatten.flatten := by
  have h1 := elF_in _ h
  rcases nthG_in (d := ([] : List (List Nat))) Bk (Nat.mod q 16) with z | z
  · rw [z] at h1
    exact absurd h1 List.not_mem_nil
  · rcases nthG_in (d := ([] : List Nat)) (nthG [] Bk (Nat.mod q 16)) (Nat.mod (Nat.div q 16) 16) with z2 | z2
    · rw [z2] at h1
      exact absurd h1 List.not_mem_nil
    · exact List.mem_flatten.mpr ⟨_, List.mem_flatten.mpr ⟨_, z, z2⟩, h1⟩
theorem rec_and2 {B : Nat → Bool} : ∀ m, (Nat.rec true (fun i s => Bool.and s (B i)) m : Bool) = true → ∀ x, x < m → B x = true := fun m h => (rec_and m h).2
theorem map_nd {f : Nat → Nat} : ∀ {L : List Nat}, L.Nodup → (∀ x, x ∈ L → ∀ y, y ∈ L → f x = f y → x = y) → (L.map f).Nodup
  | [], _, _ => List.nodup_nil
  | a :: L, h, hf => by
    obtain ⟨h1, h2⟩ := List.nodup_cons.mp h
    rw [List.map_cons]
    refine List.nodup_cons.mpr ⟨fun z => ?_, map_nd h2 (fun x hx y hy => hf x (List.mem_cons_of_mem _ hx) y (List.mem_cons_of_mem _ hy))⟩
    obtain ⟨y, hy, e⟩ := List.mem_map.mp z
    have := hf y (List.mem_cons_of_mem _ hy) a List.mem_cons_self e
    exact h1 (this ▸ hy)
theorem mco_p {n c m : Nat} (hn : n ≤ 6) (hm : m = 2 ^ 24) : mco n c % m = c % 16 ^ n ∧ mco n c / m = lf c := by
  have h1 : c % 16 ^ n < 16 ^ n := Nat.mod_lt _ (Nat.pow_pos (by decide))
  have h2 := p6 hn
  have e : mco n c = c % 16 ^ n + lf c * m := by unfold mco; rw [hm]
  rw [← hm] at h2
  have hlt : c % 16 ^ n < m := by omega
  rw [e]
  refine ⟨?_, ?_⟩
  · rw [Nat.add_mul_mod_self_right, Nat.mod_eq_of_lt hlt]
  · rw [Nat.add_mul_div_right _ _ (by omega), Nat.div_eq_of_lt hlt, Nat.zero_add]
theorem chG_i {Bk : List (List (List Nat))} {n n1 rl M m v l : Nat} (h : chG Bk n n1 rl M m v l = true) {i w e : Nat} (hi : i < n) (hd : 0 < dg v i) (he : e ≤ 1) (hr : mvG n n1 rl M 1000 v i = 2 * w + e) : (e = 1 → memB Bk (w + l * m) = true) ∧ (e = 0 → Bool.or (Nat.beq l 0) (memB Bk w) = true) := by
  have h1 := rec_and2 n h i hi
  have h1 : Bool.rec (Bool.rec (Bool.or (Nat.beq l 0) (memB Bk (mvG n n1 rl M 1000 v i / 2))) (memB Bk (mvG n n1 rl M 1000 v i / 2 + l * m)) (Nat.beq (mvG n n1 rl M 1000 v i % 2) 1)) true (Nat.beq (dg v i) 0) = true := h1
  rw [beq_z hd, hr, show (2 * w + e) / 2 = w by omega, show (2 * w + e) % 2 = e by omega] at h1
  refine ⟨fun q => ?_, fun q => ?_⟩
  · rw [q] at h1; exact h1
  · rw [q] at h1; exact h1
theorem Hb_cl {Bk : List (List (List Nat))} {n rl ex u c m : Nat} (hrl : rl ≤ 1) (hme : m = 2 ^ 24) (hcl : clF Bk n (n + 1) rl (16 ^ n) m = true) (hm : memB Bk (mco n c) = true) (hg : Gd n u c) (h0 : lo c = 0) : Hb n rl ex c := by
  obtain ⟨k1, k2⟩ := band hcl
  have hlen : Bk.flatten.flatten.length ≤ 4095 := by
    rw [← suL_f2]
    exact Nat.le_of_ble_eq_true k2
  have hn := hg.2.2
  have hall : ∀ q, q ∈ Bk.flatten.flatten → chF Bk n (n + 1) rl (16 ^ n) m q = true := fun q hq => by
    obtain ⟨l1, a1, a2⟩ := List.mem_flatten.mp hq
    obtain ⟨l2, b1, b2⟩ := List.mem_flatten.mp a1
    exact alL_in (alL_in (alL_in k1 l2 b1) l1 b2) q a2
  have key : ∀ d x, Rk n rl ex c d x → mco n x ∈ Bk.flatten.flatten := by
    intro d
    induction d with
    | zero =>
      intro x hx
      rw [show x = c from hx]
      exact memB_in hm
    | succ d ih =>
      intro x hx
      obtain ⟨y, i, h1, h2, h3, rfl, h5⟩ := hx
      obtain ⟨g1, g2, -⟩ := Rk_ok hg h0 d y h1
      have hd := (lg_e h3).2
      obtain ⟨m1, m2, m3, m4⟩ := mv_pits g1 g2 hrl h2 hd
      obtain ⟨p1, p2⟩ := mco_p (c := y) hn hme
      have hlf := lf_le (c := y)
      have hc : chG Bk n (n + 1) rl (16 ^ n) m (mco n y % m) (mco n y / m) = true := hall _ (ih y h1)
      rw [p1, p2] at hc
      obtain ⟨k3, k4⟩ := chG_i hc h2 (by rw [dg_mod h2]; exact hd) (by split <;> decide) m1
      have m4 := m4 h5
      by_cases q : (mv n rl y i).2.1 = n
      · rw [if_pos q] at k3 m4
        have e : mco n (mvc n rl y i) = mvc n rl y i % 16 ^ n + lf y * m := by unfold mco; rw [m4, hme]
        rw [e]
        exact memB_in (k3 rfl)
      · rw [if_neg q] at k4 m4
        have hi := k4 rfl
        have e : mco n (mvc n rl y i) = mvc n rl y i % 16 ^ n := by unfold mco; rw [m4, Nat.zero_mul, Nat.add_zero]
        rw [e]
        rcases m3 with ⟨z, -⟩ | ⟨z, z2⟩
        · rcases bor hi with w | w
          · have := Nat.eq_of_beq_eq_true w
            omega
          · exact memB_in w
        · exact absurd (z2 h5) q
  intro L h1 h2
  have hok : ∀ x, x ∈ L → Gd n u x ∧ lo x = 0 ∧ mco n x ∈ Bk.flatten.flatten := fun x hx => by
    obtain ⟨d, hd⟩ := h2 x hx
    obtain ⟨g1, g2, -⟩ := Rk_ok hg h0 d x hd
    exact ⟨g1, g2, key d x hd⟩
  have hnd : (L.map (mco n)).Nodup := map_nd h1 (fun x hx y hy e => mco_inj (hok x hx).1 (hok y hy).1 (hok x hx).2.1 (hok y hy).2.1 e)
  have := nd_le _ Bk.flatten.flatten hnd (fun q hq => by
    obtain ⟨x, hx, e⟩ := List.mem_map.mp hq
    rw [← e]
    exact (hok x hx).2.2)
  rw [List.length_map] at this
  omega
