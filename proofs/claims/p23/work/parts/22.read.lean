/-! the class's pad: reading it -/
def gr (o : Option Nat) (ch : Nat) : Nat := match o with
  | none => ch - 48
  | some v => v * 10 + ch - 48
/-- what is read: pits, seeds, position, and where it is at fault -/
def rd (w : Nat → Nat) : Nat → Nat → Option Nat → Bool → Nat → Nat → Nat → Nat × Nat × Nat × Option Nat
  | 0, i, o, e, c, s, p => match o with
    | none => (c, s, p, some i)
    | some v => if e = true then (c, s + v, p + v * 16 ^ c, none) else (c + 1, s + v, p + v * 16 ^ c, none)
  | f + 1, i, o, e, c, s, p => if cg o (w i) = true then rd w f (i + 1) (some (gr o (w i))) e c s p else match o with
    | none => (c, s, p, some i)
    | some v => if e = true then (c, s, p, some i) else if cs c (w i) = true then rd w f (i + 1) none (decide (w i = 47)) (c + 1) (s + v) (p + v * 16 ^ c) else (c, s, p, some i)
def fI : Option Nat → Int32
  | none => oz_c (-6)
  | some i => nI i
def pG (G : oz_G) (c s p : Nat) : oz_G := oz2 (oz2 (oz2 G 8 2 (nI c)) 8 3 (nI s)) 8 4 (nI p)
theorem pG_1 (G : oz_G) (c s p : Nat) (x y z : Int32) : oz2 (oz2 (oz2 (pG G c s p) 8 4 x) 8 3 y) 8 2 z = oz2 (oz2 (oz2 G 8 2 z) 8 3 y) 8 4 x := by
  funext a b
  unfold pG oz2
  by_cases ha : a = 8
  · subst ha
    by_cases h2 : b = 2
    · subst h2; simp
    · by_cases h3 : b = 3
      · subst h3; simp
      · by_cases h4 : b = 4
        · subst h4; simp
        · simp [h2, h3, h4]
  · simp [ha]
theorem pG_2 (G : oz_G) (c s p : Nat) (x y : Int32) : oz2 (oz2 (pG G c s p) 8 4 x) 8 3 y = oz2 (oz2 (oz2 G 8 2 (nI c)) 8 3 y) 8 4 x := by
  funext a b
  unfold pG oz2
  by_cases ha : a = 8
  · subst ha
    by_cases h2 : b = 2
    · subst h2; simp
    · by_cases h3 : b = 3
      · subst h3; simp
      · by_cases h4 : b = 4
        · subst h4; simp
        · simp [h2, h3, h4]
  · simp [ha]
def PdC (G : oz_G) (w : Nat → Nat) (len : Nat) : Prop := G 8 1 = nI len ∧ len ≤ 40 ∧ ∀ j, j < len → G 9 j = nI (w j) ∧ w j < 128
def s_X0_read : oz_S := oz_t0 8 fun N G R J Φ => ∃ hi sl w len q, R = rmR hi sl ∧ PdC G w len ∧ rd w len 0 none false 0 0 0 = q ∧ Φ (some (.int (fI q.2.2.2))) N (pG G q.1 q.2.1 q.2.2.1) R J
theorem b2_t {b : Bool} : (¬ b2 b = nI 0) ↔ b = true := by cases b <;> decide
theorem b2_f {b : Bool} : b2 b = nI 0 ↔ b = false := by cases b <;> decide
theorem gr_le {o : Option Nat} {ch : Nat} (h : cg o ch = true) : gr o ch ≤ 14 ∧ 48 ≤ ch ∧ ch ≤ 57 := by
  unfold cg at h
  unfold gr
  cases o with
  | none =>
    simp only [Bool.and_eq_true, decide_eq_true_eq] at h
    show ch - 48 ≤ 14 ∧ _
    omega
  | some v =>
    simp only [Bool.and_eq_true, decide_eq_true_eq] at h
    show v * 10 + ch - 48 ≤ 14 ∧ _
    omega
theorem cs_le {c ch : Nat} (h : cs c ch = true) (hc : c ≤ 5) : c + 1 ≤ 6 ∧ (decide (ch = 47) = false → c + 1 ≤ 5) := by
  unfold cs at h
  simp only [Bool.or_eq_true, Bool.and_eq_true, decide_eq_true_eq] at h
  refine ⟨by omega, fun q => ?_⟩
  simp only [decide_eq_false_iff_not] at q
  omega
theorem pos_nx {c s p v : Nat} {x y : Int32} (hc : c ≤ 6) (hv : v ≤ 14) : nI p + rw_sd (nI v) (nI c) = nI (p + v * 16 ^ c) := by
  have h1 : 16 ^ c ≤ 16 ^ 6 := Nat.pow_le_pow_right (by decide) hc
  have h2 : v * 16 ^ c ≤ 14 * 16 ^ 6 := Nat.mul_le_mul hv h1
  rw [rw_sd_n (by omega) (by omega), nI_add]
theorem fit_X0_charactersIn : ∀ a N G R J Φ, s_X0_charactersIn a N G R J Φ → oz_fit a 6 := by
  intro a N G R J Φ h
  unfold s_X0_charactersIn at h
  split at h
  · exact oz_fit_of (Nat.le_of_ble_eq_true rfl) rfl
  · exact h.elim
