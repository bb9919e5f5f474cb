/-! the model's pad: a position read -/
theorem dg_at {p c v : Nat} (hp : p < 16 ^ c) (hv : v < 16) : dg (p + v * 16 ^ c) c = v ∧ ∀ k, k < c → dg (p + v * 16 ^ c) k = dg p k := by
  refine ⟨?_, fun k hk => dg_low hk⟩
  have := dg_mk (a := p) (d := v) (b := 0) (j := c) hp hv
  rw [Nat.zero_mul, Nat.add_zero] at this
  exact this
def t_X6_isWell : oz_T := (P_X6_isWell, e_X6, [(176, 1, 1, 0, s_X6_number), (169, 1, 3, 0, s_X6_sees)], (true, 58, none, true, 0), (0, fun _ => 0))
def FrW (G G' : oz_G) : Prop := (∀ a, a ≠ 44 → a ≠ 52 → G' a = G a) ∧ ∀ k, k ≠ 8 → k ≠ 11 → G' 44 k = G 44 k
def WlR (G' : oz_G) (q : Nat × Nat × Nat × Option Nat) : Prop := (∀ j, q.2.2.2 = some j → G' 44 8 = nI j) ∧ (q.2.2.2 = none → G' 44 11 = nI q.1 ∧ (∀ k, k < q.1 → G' 52 k = nI (dg q.2.2.1 k)) ∧ G' 52 6 = nI (dg q.2.2.1 q.1))
def s_X6_isWell : oz_S := oz_t0 44 fun N G R J Φ => ∃ hi sl w len q, R = rmR hi sl ∧ PdM G w len ∧ rd w len 0 none false 0 0 0 = q ∧ ∀ G' : oz_G, FrW G G' → WlR G' q → Φ (some (.int (b2 q.2.2.2.isNone))) N G' R J
theorem PdM_fr {G G' : oz_G} {w : Nat → Nat} {len : Nat} (h : PdM G w len) (h1 : G' 44 7 = G 44 7) (h2 : G' 50 = G 50) : PdM G' w len := ⟨by rw [h1]; exact h.1, h.2.1, fun j hj => by rw [h2]; exact h.2.2 j hj⟩
theorem FrW_i {G G' : oz_G} {k : Nat} {v : Int32} (h : FrW G G') (hk : k = 8 ∨ k = 11) : FrW G (oz2 G' 44 k v) := ⟨fun a h1 h2 => by rw [oz2_row h1]; exact h.1 a h1 h2, fun j h1 h2 => by rw [oz2_ne (by omega)]; exact h.2 j h1 h2⟩
theorem FrW_p {G G' : oz_G} {k : Nat} {v : Int32} (h : FrW G G') : FrW G (oz2 G' 52 k v) := ⟨fun a h1 h2 => by rw [oz2_row h2]; exact h.1 a h1 h2, fun j h1 h2 => by rw [oz2_row (by decide)]; exact h.2 j h1 h2⟩
theorem FrW_n {G G' G2 : oz_G} (h : FrW G G') (h1 : ∀ a, a ≠ 44 → G2 a = G' a) (h2 : ∀ k, k ≠ 8 → G2 44 k = G' 44 k) : FrW G G2 := ⟨fun a a1 a2 => by rw [h1 a a1]; exact h.1 a a1 a2, fun j a1 a2 => by rw [h2 j a1]; exact h.2 j a1 a2⟩
theorem I_X6_isWell : oz_Imp t_X6_isWell 2 s_X6_isWell := by
  intro Φ A a N G R J hN hS hC
  obtain ⟨rfl, hi, sl, w, len, q, rfl, hP, hq, h⟩ := oz_t0_e hS
  have hl40 := hP.2.1
  have hw : ∀ i, i < len → w i < 128 := fun i hi => (hP.2.2 i hi).2
  have pd : ∀ G2, FrW G G2 → PdM G2 w len := fun G2 f => PdM_fr hP (f.2 7 (by decide) (by decide)) (f.1 50 (by decide) (by decide))
  have no : ∀ G5, FrW G G5 → WlR G5 q → ∀ j, q.2.2.2 = some j → Φ (some (.int (nI 0))) N G5 (rmR hi sl) J := fun G5 f1 f2 j hj => by
    have hf := h G5 f1 f2
    rw [hj] at hf
    exact hf
  have wl : ∀ (G5 : oz_G) j, q.2.2.2 = some j → G5 44 8 = nI j → WlR G5 q := fun G5 j hj h8 => ⟨fun j' hj' => by rw [hj] at hj'; cases hj'; exact h8, fun z => by rw [hj] at z; cases z⟩
  have bad : ∀ (G5 : oz_G) j v, FrW G G5 → G5 44 8 = nI j → q.2.2.2 = some j → G5 52 6 = oz_c (-3) → A 140 [some (.ref 44), v] [] N G5 (rmR hi sl) J 0 := fun G5 j v f1 f2 f3 f4 => by
    refine hC.1 [] 40 140 _ _ _ _ _ _ _ ⟨6, rfl, by decide, fun _ => ⟨Or.inl rfl, no G5 f1 (wl G5 j f3 f2) j f3⟩, fun z => absurd (show G5 52 6 < 0 by rw [f4]; decide) z⟩
  have good : ∀ (G5 : oz_G) j v6 v, FrW G G5 → G5 44 8 = nI j → j ≤ len → G5 52 6 = nI v6 → v6 ≤ 14 → (j = len → q.2.2.2 = none ∧ WlR G5 q) → (j ≠ len → q.2.2.2 = some j) → A 140 [some (.ref 44), v] [] N G5 (rmR hi sl) J 0 := fun G5 j v6 v f1 f2 f3 f4 f5 f6 f7 => by
    have e7 : G5 44 7 = nI len := (pd G5 f1).1
    refine hC.1 [] 60 140 _ _ _ _ _ _ _ ⟨6, rfl, by decide, fun z => absurd (show G5 52 6 < 0 from z) (by rw [f4]; exact nI_pos (by omega)), fun _ => ⟨fun z => ?_, fun z => ?_⟩⟩
    · have z : ¬ G5 44 8 = G5 44 7 := z
      rw [f2, e7, nI_eq (by omega) (by omega)] at z
      exact ⟨Or.inl rfl, no G5 f1 (wl G5 j (f7 z) f2) j (f7 z)⟩
    · have z : ¬ ¬ G5 44 8 = G5 44 7 := z
      have z := Classical.not_not.mp z
      rw [f2, e7, nI_eq (by omega) (by omega)] at z
      obtain ⟨a1, a2⟩ := f6 z
      have hf := h G5 f1 a2
      rw [a1] at hf
      exact ⟨Or.inr rfl, hf⟩
  have a100 : ∀ (G4 : oz_G) j c s p v, FrW G G4 → G4 44 8 = nI j → j ≤ len → G4 44 11 = nI (c + 1) → c ≤ 5 → (∀ k, k < c + 1 → G4 52 k = nI (dg (p + v * 16 ^ c) k)) → p < 16 ^ c → v ≤ 14 → af w (len - j) j v false c s p = q → ¬ (j < len ∧ w j = 44 ∧ c + 2 ≤ 6) → A 100 [some (.ref 44), some (.int (nI 0))] [] N G4 (rmR hi sl) J 0 := by
    intro G4 j c s p v f1 f2 f3 f4 f5 f6 f7 f8 f9 f10
    have hpd := pd _ (FrW_p (k := 6) (v := nI 0) f1)
    obtain ⟨t1, t2⟩ := dig_add (v := v) f7 (by omega)
    refine hC.1 [140] 90 100 _ _ _ _ _ _ _ ⟨6, rfl, by decide, hi, sl, w, len, j, rfl, hpd, by rw [oz2_row (by decide)]; exact f2, by omega, fun z => ?_, fun z => ?_⟩
    · have z : b2 (se w len j (nI 47) (nI 47)) = nI 0 := z
      have z : ¬ (j < len ∧ 47 ≤ w j ∧ w j ≤ 47) := fun y => by
        rw [(se_n (hw j) (by decide) (by decide)).mpr y] at z
        exact absurd z (by decide)
      refine good _ j 0 _ (FrW_p f1) (by rw [oz2_row (by decide)]; exact f2) f3 (by rw [oz2_self]; rfl) (by decide) (fun hj => ?_) (fun hj => ?_)
      · rw [hj, Nat.sub_self] at f9
        have f9 : (c + 1, s + v, p + v * 16 ^ c, (none : Option Nat)) = q := f9
        subst f9
        refine ⟨rfl, (fun j' hj' => by cases hj'), fun _ => ⟨by rw [oz2_row (by decide)]; exact f4, fun k hk => by rw [oz2_ne (by have hk : k < c + 1 := hk; omega)]; exact f6 k hk, ?_⟩⟩
        show oz2 G4 52 6 (nI 0) 52 6 = nI (dg (p + v * 16 ^ c) (c + 1))
        rw [oz2_self, dg_top t2]
      · obtain ⟨f, hf⟩ : ∃ f, len - j = f + 1 := ⟨len - j - 1, by omega⟩
        have hcs : cs c (w j) = false := by
          unfold cs
          rw [decide_eq_false (show ¬ w j = 47 by omega)]
          by_cases y : w j = 44
          · rw [decide_eq_false (show ¬ c + 2 ≤ 6 by omega), Bool.and_false, Bool.or_false]
          · rw [decide_eq_false y]; rfl
        rw [hf] at f9
        have f9 : (if cs c (w j) = true then rd w f (j + 1) none (decide (w j = 47)) (c + 1) (s + v) (p + v * 16 ^ c) else (c, s, p, some j)) = q := f9
        rw [if_neg (by rw [hcs]; decide)] at f9
        rw [← f9]
    · have z : ¬ b2 (se w len j (nI 47) (nI 47)) = nI 0 := z
      rw [b2_t, se_n (hw j) (by decide) (by decide)] at z
      obtain ⟨f, hf⟩ : ∃ f, len - j = f + 1 := ⟨len - j - 1, by omega⟩
      have hw47 : w j = 47 := by omega
      have hcs : cs c (w j) = true := by
        unfold cs
        rw [decide_eq_true hw47]; rfl
      rw [hf] at f9
      have f9 : (if cs c (w j) = true then rd w f (j + 1) none (decide (w j = 47)) (c + 1) (s + v) (p + v * 16 ^ c) else (c, s, p, some j)) = q := f9
      rw [if_pos hcs, decide_eq_true hw47, rd_n (show f + (j + 1) = len by omega)] at f9
      have e8 : oz2 G4 52 6 (nI 0) 44 8 + nI 1 = nI (j + 1) := by rw [oz2_row (by decide), f2, nI_add]
      have fr1 := FrW_i (k := 8) (v := oz2 G4 52 6 (nI 0) 44 8 + nI 1) (FrW_p (k := 6) (v := nI 0) f1) (Or.inl rfl)
      obtain ⟨n1, n2, n3⟩ := nm_le (w := w) (len := len) (i := j + 1) (by omega)
      refine ⟨hi, sl, w, len, j + 1, rfl, pd _ fr1, by rw [oz2_self]; exact e8, by omega, fun G' g1 g2 g3 => ⟨6, rfl, by decide, ?_⟩⟩
      have fr2 : FrW G (oz2 G' 52 6 (nv (nm w len (j + 1)).1)) := FrW_p (FrW_n fr1 g1 g2)
      cases hz : (nm w len (j + 1)).1 with
      | none =>
        rw [hz] at f9 fr2
        have f9 : (c + 1, s + v, p + v * 16 ^ c, some (j + 1)) = q := f9
        exact bad _ (j + 1) _ fr2 (by rw [oz2_row (by decide), g3, n3 hz]) (by rw [← f9]) (by rw [oz2_self]; rfl)
      | some v2 =>
        rw [hz] at f9 fr2
        have f9 : af w (len - (nm w len (j + 1)).2) (nm w len (j + 1)).2 v2 true (c + 1) (s + v) (p + v * 16 ^ c) = q := f9
        have hv2 := n2 v2 hz
        obtain ⟨u1, u2⟩ := dg_at (v := v2) t2 (by omega)
        refine good _ (nm w len (j + 1)).2 v2 _ fr2 (by rw [oz2_row (by decide)]; exact g3) n1 (by rw [oz2_self]; rfl) hv2 (fun hj => ?_) (fun hj => ?_)
        · rw [hj, Nat.sub_self] at f9
          have f9 : (c + 1, s + v + v2, p + v * 16 ^ c + v2 * 16 ^ (c + 1), (none : Option Nat)) = q := f9
          subst f9
          refine ⟨rfl, (fun j' hj' => by cases hj'), fun _ => ⟨by rw [oz2_row (by decide), g2 11 (by decide), oz2_ne (by decide), oz2_row (by decide)]; exact f4, fun k hk => ?_, ?_⟩⟩
          · have hk : k < c + 1 := hk
            rw [oz2_ne (by omega), g1 52 (by decide), oz2_row (by decide), oz2_ne (by omega), f6 k hk]
            show nI _ = nI (dg (p + v * 16 ^ c + v2 * 16 ^ (c + 1)) k)
            rw [u2 k hk]
          · show oz2 G' 52 6 (nv (some v2)) 52 6 = nI (dg (p + v * 16 ^ c + v2 * 16 ^ (c + 1)) (c + 1))
            rw [oz2_self, u1]
            rfl
        · obtain ⟨f', hf'⟩ : ∃ f', len - (nm w len (j + 1)).2 = f' + 1 := ⟨len - (nm w len (j + 1)).2 - 1, by omega⟩
          rw [hf'] at f9
          have f9 : (c + 1, s + v, p + v * 16 ^ c, some (nm w len (j + 1)).2) = q := f9
          rw [← f9]
  have a12z : ∀ (G4 : oz_G), A 100 [some (.ref 44), some (.int (nI 0))] [] N G4 (rmR hi sl) J 0 → A 12 [some (.ref 44), some (.int (nI 0))] [] N G4 (rmR hi sl) J 0 := fun G4 z => hC.1 [100] 30 12 _ _ _ _ _ _ _ ⟨fun _ => z, fun y => absurd rfl y⟩
  have loop : ∀ g c i s p (G2 : oz_G), c + g = 6 → 0 < g → FrW G G2 → G2 44 8 = nI i → i ≤ len → G2 44 11 = nI c → (∀ k, k < c → G2 52 k = nI (dg p k)) → p < 16 ^ c → rd w (len - i) i none false c s p = q → A 12 [some (.ref 44), some (.int (nI 1))] [] N G2 (rmR hi sl) J 0 := by
    intro g
    induction g with
    | zero => intro c i s p G2 _ h0; omega
    | succ g ih =>
      intro c i s p G2 hcg _ f1 f2 f3 f4 f5 f6 f7
      rw [rd_n (show len - i + i = len by omega)] at f7
      obtain ⟨n1, n2, n3⟩ := nm_le (w := w) (len := len) (i := i) f3
      have a43 : ∀ G' v, (nm w len i).1 = some v → (∀ a, a ≠ 44 → G' a = G2 a) → (∀ k, k ≠ 8 → G' 44 k = G2 44 k) → G' 44 8 = nI (nm w len i).2 → A 43 [some (.ref 44), some (.int (nI 1))] [] N (oz2 G' 52 c (nI v)) (rmR hi sl) J 0 := by
        intro G' v hz g1 g2 g3
        rw [hz] at f7
        have f7 : af w (len - (nm w len i).2) (nm w len i).2 v false c s p = q := f7
        have hv := n2 v hz
        generalize (nm w len i).2 = j at f7 g3 n1
        obtain ⟨u1, u2⟩ := dg_at (v := v) f6 (by omega)
        have e11 : oz2 G' 52 c (nI v) 44 11 + nI 1 = nI (c + 1) := by rw [oz2_row (by decide), g2 11 (by decide), f4, nI_add]
        have fr1 := FrW_i (k := 11) (v := oz2 G' 52 c (nI v) 44 11 + nI 1) (FrW_p (k := c) (v := nI v) (FrW_n f1 g1 g2)) (Or.inr rfl)
        have k8 : oz2 (oz2 G' 52 c (nI v)) 44 11 (oz2 G' 52 c (nI v) 44 11 + nI 1) 44 8 = nI j := by rw [oz2_ne (by decide), oz2_row (by decide)]; exact g3
        have k11 : oz2 (oz2 G' 52 c (nI v)) 44 11 (oz2 G' 52 c (nI v) 44 11 + nI 1) 44 11 = nI (c + 1) := by rw [oz2_self]; exact e11
        have kd : ∀ k, k < c + 1 → oz2 (oz2 G' 52 c (nI v)) 44 11 (oz2 G' 52 c (nI v) 44 11 + nI 1) 52 k = nI (dg (p + v * 16 ^ c) k) := fun k hk => by
          rw [oz2_row (by decide)]
          by_cases y : k = c
          · rw [y, oz2_self, u1]
          · rw [oz2_ne y, g1 52 (by decide), f5 k (by omega), u2 k (by omega)]
        have zero : ¬ (j < len ∧ w j = 44 ∧ c + 2 ≤ 6) → A 12 [some (.ref 44), some (.int (nI 0))] [] N (oz2 (oz2 (oz2 G' 52 c (nI v)) 44 11 (oz2 G' 52 c (nI v) 44 11 + nI 1)) 44 8 (oz2 (oz2 G' 52 c (nI v)) 44 11 (oz2 G' 52 c (nI v) 44 11 + nI 1) 44 8 + nI 0)) (rmR hi sl) J 0 := fun z =>
          a12z _ (a100 _ j c s p v (FrW_i fr1 (Or.inl rfl)) (by rw [oz2_self, k8, nI_add, Nat.add_zero]) n1 (by rw [oz2_ne (by decide)]; exact k11) (by omega) (fun k hk => by rw [oz2_row (by decide)]; exact kd k hk) f6 hv f7 z)
        have one : (j < len ∧ w j = 44 ∧ c + 2 ≤ 6) → A 12 [some (.ref 44), some (.int (nI 1))] [] N (oz2 (oz2 (oz2 G' 52 c (nI v)) 44 11 (oz2 G' 52 c (nI v) 44 11 + nI 1)) 44 8 (oz2 (oz2 G' 52 c (nI v)) 44 11 (oz2 G' 52 c (nI v) 44 11 + nI 1) 44 8 + nI 1)) (rmR hi sl) J 0 := fun z => by
          obtain ⟨f, hf⟩ : ∃ f, len - j = f + 1 := ⟨len - j - 1, by omega⟩
          have hcs : cs c (w j) = true := by
            unfold cs
            rw [decide_eq_true z.2.1, decide_eq_true z.2.2, Bool.and_self, Bool.or_true]
          rw [hf] at f7
          have f7 : (if cs c (w j) = true then rd w f (j + 1) none (decide (w j = 47)) (c + 1) (s + v) (p + v * 16 ^ c) else (c, s, p, some j)) = q := f7
          rw [if_pos hcs, decide_eq_false (show ¬ w j = 47 by omega), show f = len - (j + 1) by omega] at f7
          exact ih (c + 1) (j + 1) (s + v) (p + v * 16 ^ c) _ (by omega) (by omega) (FrW_i fr1 (Or.inl rfl)) (by rw [oz2_self, k8, nI_add]) (by omega) (by rw [oz2_ne (by decide)]; exact k11) (fun k hk => by rw [oz2_row (by decide)]; exact kd k hk) (dig_add f6 (by omega)).2 f7
        refine hC.1 [12] 90 43 _ _ _ _ _ _ _ ⟨fun z => ⟨fun _ => zero (fun y => ?_), fun y => absurd rfl y⟩, fun z => ⟨hi, sl, w, len, j, rfl, pd _ fr1, k8, by omega, fun z2 => ⟨fun _ => zero (fun y => ?_), fun y => absurd rfl y⟩, fun z2 => ⟨fun y => absurd y (show ¬ nI 1 = nI 0 by decide), fun _ => one ?_⟩⟩⟩
        · have z : nI 6 ≤ oz2 (oz2 G' 52 c (nI v)) 44 11 (oz2 G' 52 c (nI v) 44 11 + nI 1) 44 11 := z
          rw [k11, nI_leI (by decide) (by omega)] at z
          omega
        · have z2 : b2 (se w len j (nI 44) (nI 44)) = nI 0 := z2
          rw [(se_n (hw j) (by decide) (by decide)).mpr ⟨y.1, by omega, by omega⟩] at z2
          exact absurd z2 (by decide)
        · have z : ¬ nI 6 ≤ oz2 (oz2 G' 52 c (nI v)) 44 11 (oz2 G' 52 c (nI v) 44 11 + nI 1) 44 11 := z
          rw [k11, nI_leI (by decide) (by omega)] at z
          have z2 : ¬ b2 (se w len j (nI 44) (nI 44)) = nI 0 := z2
          rw [b2_t, se_n (hw j) (by decide) (by decide)] at z2
          exact ⟨z2.1, by omega, by omega⟩
      have c7 : c < 7 := by omega
      refine hC.1 [43] 90 12 _ _ _ _ _ _ _ ⟨fun z => absurd z (show ¬ nI 1 = nI 0 by decide), fun _ => ⟨hi, sl, w, len, i, rfl, pd _ f1, f2, f3, fun G' g1 g2 g3 => ⟨c, f4, c7, c, by rw [oz2_row (by decide), g2 11 (by decide)]; exact f4, c7, fun z => ?_, fun z => ?_⟩⟩⟩
      · have z : nI 0 ≤ oz2 G' 52 c (nv (nm w len i).1) 52 c := z
        rw [oz2_self] at z
        cases hz : (nm w len i).1 with
        | none => rw [hz] at z; exact absurd z (by decide)
        | some v =>
          exact a43 G' v hz g1 g2 g3
      · have z : ¬ nI 0 ≤ oz2 G' 52 c (nv (nm w len i).1) 52 c := z
        rw [oz2_self] at z
        cases hz : (nm w len i).1 with
        | none =>
          rw [hz] at f7
          have f7 : (c, s, p, some i) = q := f7
          have hj : q.2.2.2 = some i := by rw [← f7]
          have fr2 : FrW G (oz2 G' 52 c (nv none)) := FrW_p (FrW_n f1 g1 g2)
          exact ⟨Or.inl rfl, no _ fr2 (wl _ i hj (by rw [oz2_row (by decide), g3, n3 hz])) i hj⟩
        | some v =>
          rw [hz] at z
          have hv := n2 v hz
          exact absurd (show nI 0 ≤ nI v by rw [nI_leI (by decide) (by omega)]; exact Nat.zero_le _) z
  exact hC.1 [12] 60 0 _ _ _ _ _ _ _ (loop 6 0 0 0 0 (oz2 (oz2 G 44 8 (nI 0)) 44 11 (nI 0)) (by decide) (by decide) (FrW_i (FrW_i ⟨fun _ _ _ => rfl, fun _ _ _ => rfl⟩ (Or.inl rfl)) (Or.inr rfl)) rfl (Nat.zero_le _) rfl (fun k hk => absurd hk (Nat.not_lt_zero _)) (by decide) (by rw [Nat.sub_zero]; exact hq))
