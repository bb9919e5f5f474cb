/-! OWN LAYER, part 7: shapes of words -/
def oz_i1 (F : Int32 → Nat → oz_G → oz_R → oz_J → oz_C → Prop) : oz_S := fun a N G R J Φ => match a with
  | [.int x] => F x N G R J Φ
  | _ => False
def oz_i2 (F : Int32 → Int32 → Nat → oz_G → oz_R → oz_J → oz_C → Prop) : oz_S := fun a N G R J Φ => match a with
  | [.int x, .int y] => F x y N G R J Φ
  | _ => False
def oz_i3 (F : Int32 → Int32 → Int32 → Nat → oz_G → oz_R → oz_J → oz_C → Prop) : oz_S := fun a N G R J Φ => match a with
  | [.int x, .int y, .int z] => F x y z N G R J Φ
  | _ => False
def oz_t0 (b : Nat) (F : Nat → oz_G → oz_R → oz_J → oz_C → Prop) : oz_S := fun a N G R J Φ => match a with
  | [.ref c] => oz_if (Nat.beq c b) (F N G R J Φ)
  | _ => False
def oz_t1 (b : Nat) (F : Int32 → Nat → oz_G → oz_R → oz_J → oz_C → Prop) : oz_S := fun a N G R J Φ => match a with
  | [.ref c, .int x] => oz_if (Nat.beq c b) (F x N G R J Φ)
  | _ => False
def oz_t2 (b : Nat) (F : Int32 → Int32 → Nat → oz_G → oz_R → oz_J → oz_C → Prop) : oz_S := fun a N G R J Φ => match a with
  | [.ref c, .int x, .int y] => oz_if (Nat.beq c b) (F x y N G R J Φ)
  | _ => False
theorem oz_i1_e {F : Int32 → Nat → oz_G → oz_R → oz_J → oz_C → Prop} {a : List Value} {N : Nat} {G : oz_G} {R : oz_R} {J : oz_J} {Φ : oz_C} (h : oz_i1 F a N G R J Φ) : ∃ x, a = [.int x] ∧ F x N G R J Φ := by
  unfold oz_i1 at h
  split at h
  · exact ⟨_, rfl, h⟩
  · exact h.elim
theorem oz_i2_e {F : Int32 → Int32 → Nat → oz_G → oz_R → oz_J → oz_C → Prop} {a : List Value} {N : Nat} {G : oz_G} {R : oz_R} {J : oz_J} {Φ : oz_C} (h : oz_i2 F a N G R J Φ) : ∃ x y, a = [.int x, .int y] ∧ F x y N G R J Φ := by
  unfold oz_i2 at h
  split at h
  · exact ⟨_, _, rfl, h⟩
  · exact h.elim
theorem oz_i3_e {F : Int32 → Int32 → Int32 → Nat → oz_G → oz_R → oz_J → oz_C → Prop} {a : List Value} {N : Nat} {G : oz_G} {R : oz_R} {J : oz_J} {Φ : oz_C} (h : oz_i3 F a N G R J Φ) : ∃ x y z, a = [.int x, .int y, .int z] ∧ F x y z N G R J Φ := by
  unfold oz_i3 at h
  split at h
  · exact ⟨_, _, _, rfl, h⟩
  · exact h.elim
theorem oz_t0_e {b : Nat} {F : Nat → oz_G → oz_R → oz_J → oz_C → Prop} {a : List Value} {N : Nat} {G : oz_G} {R : oz_R} {J : oz_J} {Φ : oz_C} (h : oz_t0 b F a N G R J Φ) : a = [.ref b] ∧ F N G R J Φ := by
  unfold oz_t0 at h
  split at h
  · obtain ⟨h1, h2⟩ := oz_if_e h
    exact ⟨by rw [Nat.eq_of_beq_eq_true h1], h2⟩
  · exact h.elim
theorem oz_t1_e {b : Nat} {F : Int32 → Nat → oz_G → oz_R → oz_J → oz_C → Prop} {a : List Value} {N : Nat} {G : oz_G} {R : oz_R} {J : oz_J} {Φ : oz_C} (h : oz_t1 b F a N G R J Φ) : ∃ x, a = [.ref b, .int x] ∧ F x N G R J Φ := by
  unfold oz_t1 at h
  split at h
  · obtain ⟨h1, h2⟩ := oz_if_e h
    exact ⟨_, by rw [Nat.eq_of_beq_eq_true h1], h2⟩
  · exact h.elim
theorem oz_t2_e {b : Nat} {F : Int32 → Int32 → Nat → oz_G → oz_R → oz_J → oz_C → Prop} {a : List Value} {N : Nat} {G : oz_G} {R : oz_R} {J : oz_J} {Φ : oz_C} (h : oz_t2 b F a N G R J Φ) : ∃ x y, a = [.ref b, .int x, .int y] ∧ F x y N G R J Φ := by
  unfold oz_t2 at h
  split at h
  · obtain ⟨h1, h2⟩ := oz_if_e h
    exact ⟨_, _, by rw [Nat.eq_of_beq_eq_true h1], h2⟩
  · exact h.elim
/-! arguments that fit, receivers -/
theorem oz_fit_of {a : List Value} {n : Nat} (h : (oz_lyt a).length ≤ n) (hd : a.all (fun v => match v with
  | .double _ => false
  | _ => true) = true) : oz_fit a n := by
  refine ⟨h, fun v hv x e => ?_⟩
  have := List.all_eq_true.mp hd v hv
  rw [e] at this
  cases this
theorem oz_i1_f {F : Int32 → Nat → oz_G → oz_R → oz_J → oz_C → Prop} {n : Nat} (hn : 1 ≤ n) : ∀ a N G R J Φ, oz_i1 F a N G R J Φ → oz_fit a n := by
  intro a N G R J Φ h
  obtain ⟨x, rfl, -⟩ := oz_i1_e h
  exact oz_fit_of hn rfl
theorem oz_i2_f {F : Int32 → Int32 → Nat → oz_G → oz_R → oz_J → oz_C → Prop} {n : Nat} (hn : 2 ≤ n) : ∀ a N G R J Φ, oz_i2 F a N G R J Φ → oz_fit a n := by
  intro a N G R J Φ h
  obtain ⟨x, y, rfl, -⟩ := oz_i2_e h
  exact oz_fit_of hn rfl
theorem oz_i3_f {F : Int32 → Int32 → Int32 → Nat → oz_G → oz_R → oz_J → oz_C → Prop} {n : Nat} (hn : 3 ≤ n) : ∀ a N G R J Φ, oz_i3 F a N G R J Φ → oz_fit a n := by
  intro a N G R J Φ h
  obtain ⟨x, y, z, rfl, -⟩ := oz_i3_e h
  exact oz_fit_of hn rfl
theorem oz_t0_f {b : Nat} {F : Nat → oz_G → oz_R → oz_J → oz_C → Prop} {n : Nat} (hn : 1 ≤ n) : ∀ a N G R J Φ, oz_t0 b F a N G R J Φ → oz_fit a n := by
  intro a N G R J Φ h
  obtain ⟨rfl, -⟩ := oz_t0_e h
  exact oz_fit_of hn rfl
theorem oz_t1_f {b : Nat} {F : Int32 → Nat → oz_G → oz_R → oz_J → oz_C → Prop} {n : Nat} (hn : 2 ≤ n) : ∀ a N G R J Φ, oz_t1 b F a N G R J Φ → oz_fit a n := by
  intro a N G R J Φ h
  obtain ⟨x, rfl, -⟩ := oz_t1_e h
  exact oz_fit_of hn rfl
theorem oz_t2_f {b : Nat} {F : Int32 → Int32 → Nat → oz_G → oz_R → oz_J → oz_C → Prop} {n : Nat} (hn : 3 ≤ n) : ∀ a N G R J Φ, oz_t2 b F a N G R J Φ → oz_fit a n := by
  intro a N G R J Φ h
  obtain ⟨x, y, rfl, -⟩ := oz_t2_e h
  exact oz_fit_of hn rfl
theorem oz_t0_r {b ci nb : Nat} {F : Nat → oz_G → oz_R → oz_J → oz_C → Prop} (hk : oz_k b = ci) (hb : b < nb) : oz_rec (oz_t0 b F) nb ci 0 := by
  intro Φ a N G R J hN h _
  obtain ⟨rfl, -⟩ := oz_t0_e h
  exact ⟨b, [], rfl, hk, Nat.lt_of_lt_of_le hb hN⟩
theorem oz_t1_r {b ci nb : Nat} {F : Int32 → Nat → oz_G → oz_R → oz_J → oz_C → Prop} (hk : oz_k b = ci) (hb : b < nb) : oz_rec (oz_t1 b F) nb ci 1 := by
  intro Φ a N G R J hN h _
  obtain ⟨x, rfl, -⟩ := oz_t1_e h
  exact ⟨b, _, rfl, hk, Nat.lt_of_lt_of_le hb hN⟩
theorem oz_t2_r {b ci nb : Nat} {F : Int32 → Int32 → Nat → oz_G → oz_R → oz_J → oz_C → Prop} (hk : oz_k b = ci) (hb : b < nb) : oz_rec (oz_t2 b F) nb ci 2 := by
  intro Φ a N G R J hN h _
  obtain ⟨x, y, rfl, -⟩ := oz_t2_e h
  exact ⟨b, _, rfl, hk, Nat.lt_of_lt_of_le hb hN⟩
