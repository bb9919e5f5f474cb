/-! the class's pad: reading it -/
def gr (o : Option Nat) (ch : Nat) : Nat := match o with
  | none => ch - 48
  | some v => v * 10 + ch - 48
/-- what is read: pits, seeds, position, and where it is at fault -/
def rd (w : Nat → Nat) : Nat → Nat → Option Nat → Bool → Nat → Nat → Nat → Nat × Nat × Nat × Option Nat
  | 0, i, o, e, c, s, p => match o with
    | none => (c, s, p, some i)
    | some v => if e = true then (c, s + v, p + v * 16 ^ c, none) else (c + 1, s + v, p + v * 16 ^ c, none)
  | f + 1, i, o, e, c, s, p => if cg o (w i) = true then rd w f (i + 1) (some (gr o (w i))) e c s p else match o with
    | none => (c, s, p, some i)
    | some v => if e = true then (c, s, p, some i) else if cs c (w i) = true then rd w f (i + 1) none (decide (w i = 47)) (c + 1) (s + v) (p + v * 16 ^ c) else (c, s, p, some i)
def fI : Option Nat → Int32
  | none => oz_c (-6)
  | some i => nI i
def pG (G : oz_G) (c s p : Nat) : oz_G := oz2 (oz2 (oz2 G 8 2 (nI c)) 8 3 (nI s)) 8 4 (nI p)
theorem pG_1 (G : oz_G) (c s p : Nat) (x y z : Int32) : oz2 (oz2 (oz2 (pG G c s p) 8 4 x) 8 3 y) 8 2 z = oz2 (oz2 (oz2 G 8 2 z) 8 3 y) 8 4 x := by
  funext a b
  unfold pG oz2
  by_cases ha : a = 8
  · subst ha
    by_cases h2 : b = 2
    · subst h2; simp
    · by_cases h3 : b = 3
      · subst h3; simp
      · by_cases h4 : b = 4
        · subst h4; simp
        · simp [h2, h3, h4]
  · simp [ha]
theorem pG_2 (G : oz_G) (c s p : Nat) (x y : Int32) : oz2 (oz2 (pG G c s p) 8 4 x) 8 3 y = oz2 (oz2 (oz2 G 8 2 (nI c)) 8 3 y) 8 4 x := by
  funext a b
  unfold pG oz2
  by_cases ha : a = 8
  · subst ha
    by_cases h2 : b = 2
    · subst h2; simp
    · by_cases h3 : b = 3
      · subst h3; simp
      · by_cases h4 : b = 4
        · subst h4; simp
        · simp [h2, h3, h4]
  · simp [ha]
def PdC (G : oz_G) (w : Nat → Nat) (len : Nat) : Prop := G 8 1 = nI len ∧ len ≤ 40 ∧ ∀ j, j < len → G 9 j = nI (w j) ∧ w j < 128
def t_X0_read : oz_T := (P_X0_read, e_X0, [(30, 0, 2, 0, s_X0_canGrow), (34, 1, 2, 0, s_X0_canSeparate), (38, 1, 2, 0, s_X0_takePit), (42, 1, 2, 0, s_X0_takeStore)], (true, 58, none, false, 0), (0, fun _ => 0))
def s_X0_read : oz_S := oz_t0 8 fun N G R J Φ => ∃ hi sl w len q, R = rmR hi sl ∧ PdC G w len ∧ rd w len 0 none false 0 0 0 = q ∧ Φ (some (.int (fI q.2.2.2))) N (pG G q.1 q.2.1 q.2.2.1) R J
theorem b2_t {b : Bool} : (¬ b2 b = nI 0) ↔ b = true := by cases b <;> decide
theorem b2_f {b : Bool} : b2 b = nI 0 ↔ b = false := by cases b <;> decide
theorem gr_le {o : Option Nat} {ch : Nat} (h : cg o ch = true) : gr o ch ≤ 14 ∧ 48 ≤ ch ∧ ch ≤ 57 := by
  unfold cg at h
  unfold gr
  cases o with
  | none =>
    simp only [Bool.and_eq_true, decide_eq_true_eq] at h
    show ch - 48 ≤ 14 ∧ _
    omega
  | some v =>
    simp only [Bool.and_eq_true, decide_eq_true_eq] at h
    show v * 10 + ch - 48 ≤ 14 ∧ _
    omega
theorem cs_le {c ch : Nat} (h : cs c ch = true) (hc : c ≤ 5) : c + 1 ≤ 6 ∧ (decide (ch = 47) = false → c + 1 ≤ 5) := by
  unfold cs at h
  simp only [Bool.or_eq_true, Bool.and_eq_true, decide_eq_true_eq] at h
  refine ⟨by omega, fun q => ?_⟩
  simp only [decide_eq_false_iff_not] at q
  omega
theorem pos_nx {c s p v : Nat} {x y : Int32} (hc : c ≤ 6) (hv : v ≤ 14) : nI p + rw_sd (nI v) (nI c) = nI (p + v * 16 ^ c) := by
  have h1 : 16 ^ c ≤ 16 ^ 6 := Nat.pow_le_pow_right (by decide) hc
  have h2 : v * 16 ^ c ≤ 14 * 16 ^ 6 := Nat.mul_le_mul hv h1
  rw [rw_sd_n (by omega) (by omega), nI_add]
theorem I_X0_read : oz_Imp t_X0_read 5 s_X0_read := by
  intro Φ A a N G R J hN hS hC
  obtain ⟨rfl, hi, sl, w, len, q, rfl, ⟨e1, e2, e3⟩, hq0, h⟩ := oz_t0_e hS
  have fin : ∀ (r : Nat × Nat × Nat × Option Nat), r = q → Φ (some (.int (fI r.2.2.2))) N (pG G r.1 r.2.1 r.2.2.1) (rmR hi sl) J := fun r e => by rw [e]; exact h
  have loop : ∀ f i o (e : Bool) c s p (v4 : Option Value), i + f = len → c ≤ 6 → (e = false → c ≤ 5) → (∀ v, o = some v → v ≤ 14) → rd w f i o e c s p = q → A 22 [some (.ref 8), some (.int (nu o)), some (.int (b2 e)), some (.int (nI i)), v4] [] N (pG G c s p) (rmR hi sl) J 0 := by
    intro f
    induction f with
    | zero =>
      intro i o e c s p v4 hif hc hce ho hr
      have hil : i = len := by omega
      subst hil
      refine hC.1 [132] 30 22 _ _ _ _ _ _ _ ⟨fun _ => ?_, fun hq => absurd (show G 8 1 ≤ nI i by rw [e1]; exact nI_le (Nat.le_refl _) (by omega)) hq⟩
      cases o with
      | none =>
        refine hC.1 [] 40 132 _ _ _ _ _ _ _ ⟨fun hq => absurd rfl hq, fun _ => ?_⟩
        show Φ (some (.int (G 8 1))) _ _ _ _
        rw [e1]
        exact fin _ hr
      | some v =>
        have hv := ho v rfl
        refine hC.1 [] 60 132 _ _ _ _ _ _ _ ⟨fun _ => ⟨fun hq => ?_, fun hq => ?_⟩, fun hq => absurd hq (fun z => nu_ne v (by omega) (Classical.not_not.mp z))⟩
        · have hq : b2 e = nI 0 := hq
          rw [b2_f] at hq
          subst hq
          have hc5 := hce rfl
          have hf := fin _ hr
          refine Eq.subst (motive := fun X => Φ _ _ X _ _) ?_ hf
          show _ = oz2 (oz2 (oz2 (pG G c s p) 8 4 (nI p + rw_sd (nI v) (nI c))) 8 3 (nI s + nI v)) 8 2 (nI c + nI 1)
          rw [pG_1, pos_nx (s := 0) (x := 0) (y := 0) (by omega) hv, nI_add, nI_add]
          rfl
        · have hq : ¬ b2 e = nI 0 := hq
          rw [b2_t] at hq
          subst hq
          have hf := fin _ hr
          refine Eq.subst (motive := fun X => Φ _ _ X _ _) ?_ hf
          show _ = oz2 (oz2 (pG G c s p) 8 4 (nI p + rw_sd (nI v) (nI c))) 8 3 (nI s + nI v)
          rw [pG_2, pos_nx (s := 0) (x := 0) (y := 0) (by omega) hv, nI_add]
          rfl
    | succ f ih =>
      intro i o e c s p v4 hif hc hce ho hr
      obtain ⟨e4, e5⟩ := e3 i (by omega)
      refine hC.1 [22, 81, 132] 60 22 _ _ _ _ _ _ _ ⟨fun hq => absurd (show G 8 1 ≤ nI i from hq) (by rw [e1]; exact nI_ge (by omega) (by omega)), fun _ => ⟨fun hq => absurd (show nI 40 ≤ nI i from hq) (nI_ge (by omega) (by decide)), fun _ => ⟨i, rfl, by show i < 40; omega, o, w i, rfl, e4, e5, ho, fun hq => ?_, fun hq => ?_⟩⟩⟩
      · have hq : b2 (cg o (w i)) = nI 0 := hq
        rw [b2_f] at hq
        show A 81 [some (.ref 8), some (.int (nu o)), some (.int (b2 e)), some (.int (nI i)), some (.int (pG G c s p 9 i))] [] N (pG G c s p) (rmR hi sl) J 0
        cases o with
        | none =>
          have hr2 : (c, s, p, some i) = q := by
            rw [← hr]
            exact (if_neg (by rw [hq]; decide)).symm
          exact hC.1 [] 30 81 _ _ _ _ _ _ _ ⟨fun _ => fin _ hr2, fun hq => absurd rfl hq⟩
        | some v =>
          have hv := ho v rfl
          have hr2 : (if e = true then (c, s, p, some i) else if cs c (w i) = true then rd w f (i + 1) none (decide (w i = 47)) (c + 1) (s + v) (p + v * 16 ^ c) else (c, s, p, some i)) = q := by
            rw [← hr]
            exact (if_neg (by rw [hq]; decide)).symm
          refine hC.1 [22] 60 81 _ _ _ _ _ _ _ ⟨fun hq => absurd hq (nu_ne v (by omega)), fun _ => ⟨fun hq2 => ?_, fun hq2 => ⟨c, w i, rfl, by omega, e4, e5, fun hq3 => ?_, fun hq3 => ?_⟩⟩⟩
          · have hq2 : ¬ b2 e = nI 0 := hq2
            rw [b2_t] at hq2
            subst hq2
            exact fin _ hr2
          · have hq2 : ¬ ¬ b2 e = nI 0 := hq2
            have hq2 := Classical.not_not.mp hq2
            rw [b2_f] at hq2
            subst hq2
            have hq3 : b2 (cs c (w i)) = nI 0 := hq3
            rw [b2_f] at hq3
            refine fin (c, s, p, some i) ?_
            rw [← hr2]
            show _ = (if cs c (w i) = true then _ else _)
            rw [if_neg (by rw [hq3]; decide)]
          · have hq2 : ¬ ¬ b2 e = nI 0 := hq2
            have hq2 := Classical.not_not.mp hq2
            rw [b2_f] at hq2
            subst hq2
            have hq3 : ¬ b2 (cs c (w i)) = nI 0 := hq3
            rw [b2_t] at hq3
            have hc5 := hce rfl
            have h3 : rd w f (i + 1) none (decide (w i = 47)) (c + 1) (s + v) (p + v * 16 ^ c) = q := by
              rw [← hr2]
              show _ = (if cs c (w i) = true then _ else _)
              rw [if_pos hq3]
            obtain ⟨g1, g2⟩ := cs_le hq3 hc5
            have hG : pG G (c + 1) (s + v) (p + v * 16 ^ c) = oz2 (oz2 (oz2 (pG G c s p) 8 4 (nI p + rw_sd (nI v) (nI c))) 8 3 (nI s + nI v)) 8 2 (nI c + nI 1) := by
              rw [pG_1, pos_nx (s := 0) (x := 0) (y := 0) (by omega) hv, nI_add, nI_add]
              rfl
            have hih := ih (i + 1) none (decide (w i = 47)) (c + 1) (s + v) (p + v * 16 ^ c) (some (.int (pG G c s p 9 i))) (by omega) g1 g2 (fun _ h => by cases h) h3
            rw [hG, ← nI_add i 1] at hih
            refine ⟨fun hq4 => ?_, fun hq4 => ?_⟩
            · have hq4 : ¬ G 9 i = nI 47 := hq4
              rw [e4, nI_eq (by omega) (by decide)] at hq4
              rw [decide_eq_false hq4] at hih
              exact hih
            · have hq4 : ¬ ¬ G 9 i = nI 47 := hq4
              have hq4 := Classical.not_not.mp hq4
              rw [e4, nI_eq (by omega) (by decide)] at hq4
              rw [decide_eq_true hq4] at hih
              exact hih
      · have hq : ¬ b2 (cg o (w i)) = nI 0 := hq
        rw [b2_t] at hq
        have hr2 : rd w f (i + 1) (some (gr o (w i))) e c s p = q := by
          rw [← hr]
          show _ = (if cg o (w i) = true then _ else _)
          rw [if_pos hq]
        obtain ⟨g1, g2, g3⟩ := gr_le hq
        have hih := ih (i + 1) (some (gr o (w i))) e c s p (some (.int (pG G c s p 9 i))) (by omega) hc hce (fun v h => by cases h; exact g1) hr2
        rw [← nI_add i 1] at hih
        cases o with
        | none =>
          refine ⟨fun hq => absurd rfl hq, fun _ => ?_⟩
          have e6 : nu (some (gr none (w i))) = G 9 i - nI 48 := by
            rw [e4, pk_sub g2]; rfl
          rw [e6] at hih
          exact hih
        | some v =>
          have hv := ho v rfl
          refine ⟨fun _ => ?_, fun hq => absurd hq (fun z => nu_ne v (by omega) (Classical.not_not.mp z))⟩
          have e6 : nu (some (gr (some v) (w i))) = nI v * nI 10 + G 9 i - nI 48 := by
            rw [e4, pk_mul, nI_add, pk_sub (by omega)]; rfl
          rw [e6] at hih
          exact hih
  have h0 := loop len 0 none false 0 0 0 none (by omega) (by decide) (fun _ => by decide) (fun _ h => by cases h) hq0
  exact hC.1 [22] 60 0 _ _ _ _ _ _ _ h0
theorem fit_X0_charactersIn : ∀ a N G R J Φ, s_X0_charactersIn a N G R J Φ → oz_fit a 6 := by
  intro a N G R J Φ h
  unfold s_X0_charactersIn at h
  split at h
  · exact oz_fit_of (Nat.le_of_ble_eq_true rfl) rfl
  · exact h.elim
