/-! the model's pad: what is seen -/
def PdM (G : oz_G) (w : Nat → Nat) (len : Nat) : Prop := G 44 7 = nI len ∧ len ≤ 40 ∧ ∀ j, j < len → G 50 j = nI (w j) ∧ w j < 128
def se (w : Nat → Nat) (len i : Nat) (x y : Int32) : Bool := decide (i < len) && inb (nI (w i)) x y
def t_X6_sees : oz_T := (P_X6_sees, e_X6, [(52, 0, 3, 0, s_X6_inn)], (true, 58, none, true, 0), (0, fun _ => 0))
def s_X6_sees : oz_S := oz_t2 44 fun x y N G R J Φ => ∃ hi sl w len i, R = rmR hi sl ∧ PdM G w len ∧ G 44 8 = nI i ∧ i < 100 ∧ Φ (some (.int (b2 (se w len i x y)))) N G R J
theorem I_X6_sees : oz_Imp t_X6_sees 3 s_X6_sees := by
  intro Φ A a N G R J hN hS hC
  obtain ⟨x, y, rfl, hi, sl, w, len, i, rfl, ⟨p1, p2, p3⟩, e8, hi100, h⟩ := oz_t2_e hS
  have no : se w len i x y = false → oz_bz (nI 0) ∧ Φ (some (.int (nI 0))) N G (rmR hi sl) J := fun q => by rw [q] at h; exact ⟨Or.inl rfl, h⟩
  have yes : se w len i x y = true → oz_bz (nI 1) ∧ Φ (some (.int (nI 1))) N G (rmR hi sl) J := fun q => by rw [q] at h; exact ⟨Or.inr rfl, h⟩
  refine hC.1 [] 60 0 _ _ _ _ _ _ _ ⟨fun q => no ?_, fun q => ?_⟩
  · have q : G 44 7 ≤ G 44 8 := q
    rw [p1, e8, nI_leI (by omega) (by omega)] at q
    unfold se
    rw [decide_eq_false (by omega)]
    rfl
  · have q : ¬ G 44 7 ≤ G 44 8 := q
    rw [p1, e8, nI_leI (by omega) (by omega)] at q
    obtain ⟨e1, e2⟩ := p3 i (by omega)
    refine ⟨i, e8, by show i < 40; omega, G 50 i, rfl, fun z => no ?_, fun z => yes ?_⟩
    · have z : b2 (inb (G 50 i) x y) = nI 0 := z
      rw [b2_f, e1] at z
      unfold se
      rw [z, Bool.and_false]
    · have z : ¬ b2 (inb (G 50 i) x y) = nI 0 := z
      rw [b2_t, e1] at z
      unfold se
      rw [z, decide_eq_true (show i < len by omega)]
      rfl
