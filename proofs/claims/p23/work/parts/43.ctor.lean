/-! the class's own constructor -/
def hi0 (k : Nat) : Nat := 14 + 5 * k
def sl0 (_ : Nat) : Option Nat := none
/-- the references while the history is filled -/
def rmI (m : Nat) : oz_R := fun a k => match Nat.beq a 6 with
  | true => if k < m then some (14 + 5 * k) else none
  | false => rmR hi0 sl0 a k
def S00 : St := (0, 1, 0, 0, 0, [])
def R00 : oz_R := fun _ _ => none
def S0 : St := sNew S00 4 (ev 2 4)
def t_X5_init : oz_T := (P_X5_init, e_X5, [(1, 2, 1, 0, oz_Sobj), (9, 2, 1, 67, s_X4_init), (29, 2, 1, 41, s_X0_init), (36, 2, 1, 0, s_X3_init), (43, 2, 1, 4103, s_X2_init), (48, 0, 2, 0, s_X1_evenly), (54, 1, 3, 0, s_X4_startRound)], (false, 0, some 4, false, 4702), (0, fun _ => 0))
def s_X5_init : oz_S := oz_t0 0 fun N G R J Φ => N = 1 ∧ R = R00 ∧ ∀ (G' : oz_G) (J' : oz_J), StR G' 1 S0 → G' 0 2 = nI 0 → G' 8 1 = nI 0 → Φ none 44 G' (rmR hi0 sl0) J'
theorem ct_k : ∀ m, m < 6 → (oz_k (14 + 5 * m) = 3) ∧ (oz_k (14 + 5 * m + 1) = 6 ∧ oz_l (14 + 5 * m + 1) = 3) ∧ (oz_k (14 + 5 * m + 1 + 1) = 6 ∧ oz_l (14 + 5 * m + 1 + 1) = 20) ∧ (oz_k (14 + 5 * m + 1 + 2) = 6 ∧ oz_l (14 + 5 * m + 1 + 2) = 20) ∧ (oz_k (14 + 5 * m + 1 + 3) = 6 ∧ oz_l (14 + 5 * m + 1 + 3) = 20) := by decide
theorem ct_s' : ∀ m, m < 6 → ∀ i, i < 14 + 5 * (m + 1) → i ≠ 12 → ∀ k, k < oz_w i → oz2 (inR (ozz (rmI m) (14 + 5 * m) none) (14 + 5 * m + 1) (14 + 5 * m)) 6 m (some (14 + 5 * m)) i k = rmI (m + 1) i k := by decide +kernel
theorem ct_s {m : Nat} (hm : m < 6) (i : Nat) (hi : i < 14 + 5 * (m + 1)) (k : Nat) (hk : k < oz_w i) : oz2 (inR (ozz (rmI m) (14 + 5 * m) none) (14 + 5 * m + 1) (14 + 5 * m)) 6 m (some (14 + 5 * m)) i k = rmI (m + 1) i k := by
  by_cases q : i = 12
  · subst q
    unfold inR ozz
    rw [oz2_row (by decide), oz2_row (by omega), oz2_row (by omega), oz2_row (by omega), oz2_row (by omega)]
    simp only [if_neg (show ¬ 12 = 14 + 5 * m by omega)]
    rfl
  · exact ct_s' m hm i hi q k hk
theorem ct_e' : ∀ i, i < 44 → i ≠ 12 → ∀ k, k < oz_w i → rmI 6 i k = rmR hi0 sl0 i k := by decide +kernel
theorem ct_e (i : Nat) (hi : i < 44) (k : Nat) (hk : k < oz_w i) : rmI 6 i k = rmR hi0 sl0 i k := by
  by_cases q : i = 12
  · subst q; rfl
  · exact ct_e' i hi q k hk
def ctB : oz_R := ozz (oz2 (ozz (oz2 (ozz (oz2 (inR (ozz R00 1 none) 2 1) 0 0 (some 1)) 6 none) 0 1 (some 6)) 7 none) 0 3 (some 7)) 8 none
def ctC : oz_R := ozz (oz2 (oz2 ctB 8 0 (some 9)) 0 4 (some 8)) 10 none
def ctD : oz_R := ozz (oz2 ctC 0 5 (some 10)) 11 none
def ctF : oz_R := oz2 (oz2 (ozz (oz2 ctD 11 0 (some 12)) 13 none) 11 1 (some 13)) 0 6 (some 11)
theorem ct_0' : ∀ i, i < 14 → i ≠ 12 → ∀ k, k < oz_w i → ctF i k = rmI 0 i k := by decide +kernel
theorem ct_0 (i : Nat) (hi : i < 14) (k : Nat) (hk : k < oz_w i) : ctF i k = rmI 0 i k := by
  by_cases q : i = 12
  · subst q; rfl
  · exact ct_0' i hi q k hk
theorem I_X5_init : oz_Imp t_X5_init 2 s_X5_init := by
  intro Φ A a N G R J hN hS hC
  obtain ⟨rfl, rfl, rfl, h⟩ := oz_t0_e hS
  have loop : ∀ f m (G2 : oz_G) (J2 : oz_J), m + f = 6 → StR G2 1 S00 → G2 0 2 = nI 0 → G2 8 1 = nI 0 → A 72 [some (.ref 0), some (.int (nI m))] [] (14 + 5 * m) G2 (rmI m) J2 (4246 + 76 * m) := by
    intro f
    induction f with
    | zero =>
      intro m G2 J2 hm g1 g2 g3
      have hm : m = 6 := by omega
      subst hm
      have hf := h _ J2 (sr_R (G := G2) (n := 4) (c0 := ev 2 4) g1 (by decide) (by decide)) g2 g3
      have a97 : A 97 [some (.ref 0), some (.int (nI 6))] [] 44 G2 (rmR hi0 sl0) J2 4702 :=
        hC.1 [] 60 97 _ _ _ _ _ _ _ ⟨⟨rfl, by decide⟩, 4, 2, rfl, rfl, by decide, by decide, rfl, by decide, hf⟩
      have a97' : A 97 [some (.ref 0), some (.int (nI 6))] [] 44 G2 (rmI 6) J2 4702 :=
        hC.2.2 _ _ _ _ _ _ _ _ _ _ _ (fun i hi k hk => ⟨rfl, ct_e i hi k hk, rfl⟩) a97
      exact hC.1 [97] 40 72 _ _ _ _ _ _ _ ⟨fun _ => a97', fun q => absurd (show nI 6 ≤ nI 6 by decide) q⟩
    | succ f ih =>
      intro m G2 J2 hm g1 g2 g3
      have hm6 : m < 6 := by omega
      obtain ⟨k0, k1, k2, k3, k4⟩ := ct_k m hm6
      have far : ∀ i, i < 14 → inG (ozz G2 (14 + 5 * m) 0) (14 + 5 * m + 1) (14 + 5 * m) i = G2 i := fun i hi => by
        unfold inG ozz
        rw [oz2_row (by omega)]
        simp only [if_neg (show ¬ i = 14 + 5 * m + 1 + 3 by omega), if_neg (show ¬ i = 14 + 5 * m + 1 + 2 by omega), if_neg (show ¬ i = 14 + 5 * m + 1 + 1 by omega), if_neg (show ¬ i = 14 + 5 * m + 1 by omega), if_neg (show ¬ i = 14 + 5 * m by omega)]
      have hih := ih (m + 1) (inG (ozz G2 (14 + 5 * m) 0) (14 + 5 * m + 1) (14 + 5 * m)) J2 (by omega) (StR_fr (fun i a1 a2 => far i (by omega)) g1) (by rw [far 0 (by decide)]; exact g2) (by rw [far 8 (by decide)]; exact g3)
      have hih2 := hC.2.2 _ _ _ _ _ _ _ _ _ _ _ (fun i hi k hk => ⟨rfl, ct_s hm6 i hi k hk, rfl⟩) hih
      rw [← nI_add m 1] at hih2
      exact hC.1 [72] 60 72 _ _ _ _ _ _ _ ⟨fun q => absurd (show nI 6 ≤ nI m from q) (nI_ge hm6 (by decide)), fun _ => ⟨⟨rfl, by omega⟩, ⟨k0, by show 4246 + 76 * m + 9 ≤ 4702; omega⟩, by show 4246 + 76 * m + 9 + 67 ≤ 4702; omega, ⟨k0, rfl⟩, k1, k2, k3, k4, ⟨rfl, by omega⟩, ⟨k0, by omega⟩, m, rfl, by show m < 6; omega, hih2⟩⟩
  have h0 := loop 6 0 (ozz (ozz (ozz (oz2 (ozz (ozz (oz2 (inG (ozz G 1 0) 2 1) 0 2 (nI 0)) 8 0) 9 0) 8 1 (nI 0)) 10 0) 11 0) 13 0) (ozz J 12 0) (by decide) ⟨rfl, rfl, rfl, rfl, rfl, rfl, rfl, trivial⟩ rfl rfl
  have h1 := hC.2.2 _ _ _ _ _ _ _ _ _ _ _ (fun i hi k hk => ⟨rfl, ct_0 i hi k hk, rfl⟩) h0
  exact hC.1 [72] 200 0 _ _ _ _ _ _ _ ⟨⟨rfl, by decide⟩, by decide, ⟨rfl, rfl⟩, ⟨rfl, rfl⟩, ⟨rfl, rfl⟩, ⟨rfl, rfl⟩, ⟨rfl, rfl⟩, ⟨rfl, by decide⟩, 6, rfl, ⟨rfl, rfl, by decide⟩, ⟨rfl, by decide⟩, ⟨rfl, by decide⟩, 2, rfl, ⟨rfl, rfl, by decide⟩, ⟨rfl, by decide⟩, ⟨rfl, by decide⟩, by decide, rfl, ⟨rfl, by decide⟩, ⟨rfl, by decide⟩, ⟨rfl, by decide⟩, ⟨rfl, by decide⟩, ⟨rfl, by decide⟩, by decide, rfl, ⟨rfl, by decide⟩, h1⟩
theorem rec_X5_init : oz_rec s_X5_init 0 4 0 := by
  intro Φ a N G R J hN h _
  obtain ⟨rfl, rfl, h3⟩ := oz_t0_e h
  exact ⟨0, _, rfl, rfl, by decide⟩
