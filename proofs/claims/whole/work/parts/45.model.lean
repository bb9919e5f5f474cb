/-! the model: how it tells the state; its first methods -/
abbrev e_X6 : List (Nat × Nat × Nat) × List (Nat × Int32) × List (Nat × Int64) × List (Nat × Nat) := (fl_X6, kt_X6, lt_X6, cn_X6)
theorem wd_lt (a b : Int32) : a.toInt64 < b.toInt64 ↔ a < b := by rw [Int64.lt_iff_toInt_lt, Int32.lt_iff_toInt_lt, Int32.toInt_toInt64, Int32.toInt_toInt64]
/-- seeds of a pit, none where there is no pit -/
def sd (n c i : Nat) : Nat := if i < n then dg c i else 0
def kpV (n : Nat) (k : Kp) (r : Nat) : Nat := if r = 0 then k.1 else if r = 1 then k.2.1 else if r < 8 then sd n k.2.2 (r - 2) else if r = 8 then dg k.2.2 n else lf k.2.2
/-- a row of the model, told by the state -/
def rowV (S : St) (k : Nat) : Nat :=
  if k = 0 then sRl S else if k = 1 then sEx S else if k = 2 then sLv S else if k = 3 then sN S else if k < 10 then sd (sN S) (sC S) (k - 4) else if k = 10 then dg (sC S) (sN S) else if k = 11 then lf (sC S) else if k = 12 then lo (sC S) else if k < 15 then (sK S).length else kpV (sN S) ((sK S).getD ((sK S).length - 1 - (k - 15) / 10) (0, 0, 0)) ((k - 15) % 10)
def RowR (G : oz_G) (a o : Nat) (S : St) : Prop := ∀ k, k < 15 + 10 * (sK S).length → G a (o + k) = nI (rowV S k)
def HsM (G : oz_G) : List St → Prop
  | [] => True
  | S :: H => RowR G 46 (215 * H.length) S ∧ HsM G H
def SlM (G : oz_G) (s : Option St) (k : Nat) : Prop := match s with
  | none => G 49 k = nI 0
  | some S => G 49 k = nI 1 ∧ RowR G 48 (215 * k) S
def MR (G : oz_G) (W : Wd) : Prop := RowR G 45 0 (wS W) ∧ G 44 5 = nI (wH W).length ∧ HsM G (wH W) ∧ SlM G (w0 W) 0 ∧ SlM G (w1 W) 1 ∧ G 44 7 = nI (wL W) ∧ wL W ≤ 40 ∧ ∀ j, j < wL W → G 50 j = nI (wP W j) ∧ wP W j < 128
theorem row_g {G : oz_G} {S : St} (h : RowR G 45 0 S) {k : Nat} (hk : k < 15) : G 45 k = nI (rowV S k) := by
  have := h k (by omega)
  rw [Nat.zero_add] at this
  exact this
def inb (x lo hi : Int32) : Bool := decide (¬ x < lo) && decide (¬ hi < x)
def t_X6_inn : oz_T := (P_X6_inn, e_X6, [], (true, 0, none, true, 0), (0, fun _ => 0))
def s_X6_inn : oz_S := fun a N G R J Φ => match a with
  | [.long v, .int y, .int z] => ∃ x : Int32, v = x.toInt64 ∧ Φ (some (.int (b2 (inb x y z)))) N G R J
  | _ => False
theorem I_X6_inn : oz_Imp t_X6_inn 4 s_X6_inn := by
  intro Φ A a N G R J hN hS hC
  obtain ⟨v, y, z, rfl, x, rfl, h⟩ : ∃ v y z, a = [.long v, .int y, .int z] ∧ ∃ x : Int32, v = x.toInt64 ∧ Φ (some (.int (b2 (inb x y z)))) N G R J := by
    unfold s_X6_inn at hS
    split at hS
    · exact ⟨_, _, _, rfl, hS⟩
    · exact hS.elim
  have no : inb x y z = false → oz_bz (nI 0) ∧ Φ (some (.int (nI 0))) N G R J := fun q => by rw [q] at h; exact ⟨Or.inl rfl, h⟩
  have yes : inb x y z = true → oz_bz (nI 1) ∧ Φ (some (.int (nI 1))) N G R J := fun q => by rw [q] at h; exact ⟨Or.inr rfl, h⟩
  refine hC.1 [] 40 0 _ _ _ _ _ _ _ ⟨fun q => no ?_, fun q => ⟨fun q2 => no ?_, fun q2 => yes ?_⟩⟩
  · have q : lg_cmp x.toInt64 y.toInt64 < 0 := q
    rw [lg_cmp_lt, wd_lt] at q
    unfold inb; simp [q]
  · have q2 : 0 < lg_cmp x.toInt64 z.toInt64 := q2
    rw [lg_cmp_gt, wd_lt] at q2
    unfold inb; simp [q2]
  · have q : ¬ lg_cmp x.toInt64 y.toInt64 < 0 := q
    have q2 : ¬ 0 < lg_cmp x.toInt64 z.toInt64 := q2
    rw [lg_cmp_lt, wd_lt] at q
    rw [lg_cmp_gt, wd_lt] at q2
    unfold inb
    rw [decide_eq_true q, decide_eq_true q2]
    rfl
theorem fit_X6_inn : ∀ a N G R J Φ, s_X6_inn a N G R J Φ → oz_fit a 4 := by
  intro a N G R J Φ h
  unfold s_X6_inn at h
  split at h
  · exact oz_fit_of (Nat.le_of_ble_eq_true rfl) rfl
  · exact h.elim
theorem inb_ip {n : Nat} {x : Int32} (h1 : 0 < n) (hn : n < 2 ^ 31) : inb x (nI 0) (nI n - nI 1) = ip n x := by
  unfold inb ip
  rw [pk_sub (by omega)]
  congr 1
  refine decide_eq_decide.mpr ?_
  rw [Int32.lt_iff_toInt_lt, Int32.le_iff_toInt_le, ti hn, ti (show n - 1 < 2 ^ 31 by omega)]
  omega
def t_X6_isPit : oz_T := (P_X6_isPit, e_X6, [(52, 0, 3, 0, s_X6_inn)], (true, 58, none, true, 0), (0, fun _ => 0))
def s_X6_isPit : oz_S := oz_t1 44 fun x N G R J Φ => ∃ hi sl n, R = rmR hi sl ∧ G 45 3 = nI n ∧ 0 < n ∧ n < 7 ∧ Φ (some (.int (b2 (ip n x)))) N G R J
theorem b2_bz (b : Bool) : oz_bz (b2 b) := by cases b; exact Or.inl rfl; exact Or.inr rfl
theorem I_X6_isPit : oz_Imp t_X6_isPit 2 s_X6_isPit := by
  intro Φ A a N G R J hN hS hC
  obtain ⟨x, rfl, hi, sl, n, rfl, e1, h1, h2, h⟩ := oz_t1_e hS
  rw [← inb_ip h1 (by omega), ← e1] at h
  exact hC.1 [] 40 0 _ _ _ _ _ _ _ ⟨3, rfl, by decide, x, rfl, b2_bz _, h⟩
/-- the model's places, told by a position -/
def PlR (G : oz_G) (n c : Nat) : Prop := (∀ i, i < n → G 53 i = nI (dg c i)) ∧ G 53 n = nI (dg c n) ∧ G 44 13 = nI (lf c)
/-- what the model leaves as it is: all but its places and small numbers -/
def FrM (G G' : oz_G) : Prop := ∀ i, i ≠ 44 → i ≠ 53 → G' i = G i
def FrF (G G' : oz_G) : Prop := G' 44 5 = G 44 5 ∧ G' 44 7 = G 44 7 ∧ G' 44 8 = G 44 8 ∧ G' 44 11 = G 44 11 ∧ G' 44 21 = G 44 21 ∧ G' 44 22 = G 44 22 ∧ G' 44 23 = G 44 23
def t_X6_takeNow : oz_T := (P_X6_takeNow, e_X6, [], (true, 58, none, false, 0), (0, fun _ => 0))
def s_X6_takeNow : oz_S := oz_t0 44 fun N G R J Φ => ∃ hi sl S, R = rmR hi sl ∧ StOk S ∧ RowR G 45 0 S ∧ ∀ G' : oz_G, PlR G' (sN S) (sC S) → (∀ i, i ≠ 44 → i ≠ 53 → G' i = G i) → (∀ k, k ≠ 13 → G' 44 k = G 44 k) → Φ none N G' R J
def plG (G : oz_G) (n c m : Nat) : oz_G := fun a => if a = 53 then (fun j => if j < m then nI (sd n c j) else G 53 j) else G a
theorem plG_s {G : oz_G} {n c m : Nat} : oz2 (plG G n c m) 53 m (nI (sd n c m)) = plG G n c (m + 1) := by
  funext a j
  unfold oz2 plG
  by_cases ha : a = 53
  · subst ha
    by_cases hj : j = m
    · subst hj; simp
    · by_cases h2 : j < m
      · have : j < m + 1 := by omega
        simp [hj, h2, this]
      · have : ¬ j < m + 1 := by omega
        simp [hj, h2, this]
  · simp [ha]
theorem plG_0 {G : oz_G} {n c : Nat} : plG G n c 0 = G := by
  funext a j
  unfold plG
  by_cases ha : a = 53
  · subst ha; simp
  · simp [ha]
theorem rowV_p {S : St} {i : Nat} (hi : i < 6) : rowV S (4 + i) = sd (sN S) (sC S) i := by
  unfold rowV
  rw [if_neg (by omega), if_neg (by omega), if_neg (by omega), if_neg (by omega), if_pos (by omega), Nat.add_sub_cancel_left]
theorem I_X6_takeNow : oz_Imp t_X6_takeNow 2 s_X6_takeNow := by
  intro Φ A a N G R J hN hS hC
  obtain ⟨rfl, hi, sl, S, rfl, hok, hR, h⟩ := oz_t0_e hS
  have hn2 := hok.1
  have hn6 := hok.2.1
  have e3 : G 45 3 = nI (sN S) := row_g hR (by decide)
  have e10 : G 45 10 = nI (dg (sC S) (sN S)) := row_g hR (by decide)
  have e11 : G 45 11 = nI (lf (sC S)) := row_g hR (by decide)
  have last : ∀ v, A 32 [some (.ref 44), v] [] N (plG G (sN S) (sC S) (sN S)) (rmR hi sl) J 0 := by
    intro v
    have hf := h (oz2 (oz2 (plG G (sN S) (sC S) (sN S)) 53 (sN S) (nI (dg (sC S) (sN S)))) 44 13 (nI (lf (sC S)))) ⟨fun i hi => by
      show (if i = sN S then nI (dg (sC S) (sN S)) else if i < sN S then nI (sd (sN S) (sC S) i) else G 53 i) = _
      rw [if_neg (by omega), if_pos hi]
      unfold sd
      rw [if_pos hi], by
      show (if sN S = sN S then nI (dg (sC S) (sN S)) else _) = _
      exact if_pos rfl, rfl⟩ (fun i h1 h2 => by rw [oz2_row h1, oz2_row h2]; unfold plG; rw [if_neg h2]) (fun k hk => by rw [oz2_ne hk]; rfl)
    have hf : Φ none N (oz2 (oz2 (plG G (sN S) (sC S) (sN S)) 53 (sN S) (nI (dg (sC S) (sN S)))) 44 13 (nI (lf (sC S)))) (rmR hi sl) J := hf
    rw [← e10, ← e11] at hf
    exact hC.1 [] 60 32 _ _ _ _ _ _ _ ⟨3, rfl, by decide, 10, rfl, by decide, sN S, e3, by show sN S < 7; omega, 11, rfl, by decide, hf⟩
  have loop : ∀ f i, i + f = sN S → A 2 [some (.ref 44), some (.int (nI i))] [] N (plG G (sN S) (sC S) i) (rmR hi sl) J 0 := by
    intro f
    induction f with
    | zero =>
      intro i hif
      have hi' : i = sN S := by omega
      rw [hi']
      exact hC.1 [32] 40 2 _ _ _ _ _ _ _ ⟨3, rfl, by decide, fun _ => last _, fun q => absurd (show G 45 3 ≤ nI (sN S) by rw [e3]; exact nI_le (Nat.le_refl _) (by omega)) q⟩
    | succ f ih =>
      intro i hif
      have hin : i < sN S := by omega
      have e : G 45 (4 + i) = nI (sd (sN S) (sC S) i) := by rw [row_g hR (show 4 + i < 15 by omega), rowV_p (by omega)]
      have hih := ih (i + 1) (by omega)
      rw [← plG_s, ← e, ← nI_add i 1] at hih
      exact hC.1 [2] 60 2 _ _ _ _ _ _ _ ⟨3, rfl, by decide, fun q => absurd (show G 45 3 ≤ nI i from q) (by rw [e3]; exact nI_ge hin (by omega)), fun _ => ⟨4 + i, nI_add 4 i, by show 4 + i < 215; omega, i, rfl, by show i < 7; omega, hih⟩⟩
  have h0 := loop (sN S) 0 (by omega)
  rw [plG_0] at h0
  exact hC.1 [2] 30 0 _ _ _ _ _ _ _ h0
