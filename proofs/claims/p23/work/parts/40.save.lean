/-! a state made; the class's public methods: save -/
def t_X4_init : oz_T := (P_X4_init, e_X4, [(3, 2, 1, 0, oz_Sobj)], (false, 0, some 3, false, 67), (0, fun _ => 0))
def inG (G : oz_G) (N b : Nat) : oz_G := oz2 (ozz (ozz (ozz (ozz G N 0) (N + 1) 0) (N + 2) 0) (N + 3) 0) N 0 (nI 1)
def inR (R : oz_R) (N b : Nat) : oz_R := oz2 (oz2 (oz2 (oz2 R b 0 (some N)) b 5 (some (N + 1))) b 6 (some (N + 2))) b 7 (some (N + 3))
def s_X4_init : oz_S := fun a N G R J Φ => match a with
  | [.ref b] => (oz_k b = 3 ∧ b + 1 = N) ∧ (oz_k N = 6 ∧ oz_l N = 3) ∧ (oz_k (N + 1) = 6 ∧ oz_l (N + 1) = 20) ∧ (oz_k (N + 2) = 6 ∧ oz_l (N + 2) = 20) ∧ (oz_k (N + 3) = 6 ∧ oz_l (N + 3) = 20) ∧ Φ none (N + 4) (inG G N b) (inR R N b) J
  | _ => False
theorem I_X4_init : oz_Imp t_X4_init 1 s_X4_init := by
  intro Φ A a N G R J hN hS hC
  obtain ⟨b, rfl, ⟨hb, hbN⟩, ⟨k0, l0⟩, ⟨k1, l1⟩, ⟨k2, l2⟩, ⟨k3, l3⟩, h⟩ : ∃ b : Nat, a = [.ref b] ∧ (oz_k b = 3 ∧ b + 1 = N) ∧ (oz_k N = 6 ∧ oz_l N = 3) ∧ (oz_k (N + 1) = 6 ∧ oz_l (N + 1) = 20) ∧ (oz_k (N + 2) = 6 ∧ oz_l (N + 2) = 20) ∧ (oz_k (N + 3) = 6 ∧ oz_l (N + 3) = 20) ∧ Φ none (N + 4) (inG G N b) (inR R N b) J := by
    unfold s_X4_init at hS
    split at hS
    · exact ⟨_, rfl, hS⟩
    · exact hS.elim
  have a39 : A 39 [some (.ref b)] [.ref N] (N + 4) (ozz (ozz (ozz (ozz G N 0) (N + 1) 0) (N + 2) 0) (N + 3) 0) (inR R N b) J 67 :=
    hC.1 [] 40 39 _ _ _ _ _ _ _ ⟨⟨k0, by show N < N + 4; omega⟩, 0, rfl, by rw [l0]; decide, h⟩
  have e : inR R N b b 0 = some N := by
    unfold inR
    rw [oz2_ne (by decide), oz2_ne (by decide), oz2_ne (by decide), oz2_self]
  have a39' : A 39 [some (.ref b)] [va_rf (inR R N b b 0)] (N + 4) (ozz (ozz (ozz (ozz G N 0) (N + 1) 0) (N + 2) 0) (N + 3) 0) (inR R N b) J 67 := by rw [e]; exact a39
  have c : ∀ j, oz_k b = 3 ∧ b < N + j := fun j => ⟨hb, by omega⟩
  exact hC.1 [39] 90 0 _ _ _ _ _ _ _ ⟨3, rfl, ⟨k0, l0, by decide⟩, c 1, 20, rfl, ⟨k1, l1, by decide⟩, c 2, 20, rfl, ⟨k2, l2, by decide⟩, c 3, 20, rfl, ⟨k3, l3, by decide⟩, c 4, c 4, a39'⟩
theorem fit_X4_init : ∀ a N G R J Φ, s_X4_init a N G R J Φ → oz_fit a 1 := by
  intro a N G R J Φ h
  unfold s_X4_init at h
  split at h
  · exact oz_fit_of (Nat.le_of_ble_eq_true rfl) rfl
  · exact h.elim
theorem rec_X4_init : oz_rec s_X4_init 0 3 0 := by
  intro Φ a N G R J hN h _
  unfold s_X4_init at h
  split at h
  · exact ⟨_, _, rfl, h.1.1, Nat.lt_of_succ_le (Nat.le_of_eq h.1.2)⟩
  · exact h.elim
def wSave (W : Wd) (k : Nat) : Wd := if k = 0 then (wS W, wH W, some (wS W), w1 W, wP W, wL W) else (wS W, wH W, w0 W, some (wS W), wP W, wL W)
def q_save (W : Wd) (x : Int32) : Int32 × Wd := if x < 0 ∨ nI 2 ≤ x then (oz_c (-2), W) else (nI (dg (sC (wS W)) (sN (wS W))), wSave W (nt x))
def s_X5_save : oz_S := oz_t1 0 fun x N G R J Φ => ∃ W, CR N G R W ∧ wOk W ∧ pQ N G W Φ (q_save W x)
