/-! the class's public methods: load, answers -/
theorem dig_add {p c v : Nat} (hp : p < 16 ^ c) (hv : v < 16) : sm (p + v * 16 ^ c) (c + 1) = sm p c + v ∧ p + v * 16 ^ c < 16 ^ (c + 1) := by
  have h1 : dg (p + v * 16 ^ c) c = v := by
    have := dg_mk (a := p) (d := v) (b := 0) (j := c) hp hv
    rw [Nat.zero_mul, Nat.add_zero] at this
    exact this
  have h2 : sm (p + v * 16 ^ c) c = sm p c := sm_congr c (fun i hi => dg_low hi)
  refine ⟨?_, ?_⟩
  · show sm (p + v * 16 ^ c) c + dg (p + v * 16 ^ c) c = _
    rw [h1, h2]
  · have h3 : v * 16 ^ c ≤ 15 * 16 ^ c := Nat.mul_le_mul_right _ (by omega)
    rw [Nat.pow_succ]; omega
theorem sm_up {p c : Nat} (h : p < 16 ^ c) : sm p (c + 1) = sm p c := by
  show sm p c + dg p c = _
  unfold dg
  rw [Nat.div_eq_of_lt h]
  rfl
def rdG (f i : Nat) (q : Nat × Nat × Nat × Option Nat) : Prop := q.1 ≤ 6 ∧ q.2.1 ≤ 98 ∧ q.2.2.1 < 16 ^ 7 ∧ (q.2.2.2 = none → sm q.2.2.1 (q.1 + 1) = q.2.1 ∧ q.2.2.1 < 16 ^ (q.1 + 1)) ∧ ∀ i', q.2.2.2 = some i' → i' ≤ i + f
theorem rdG_some {f i j c s p : Nat} (hc : c ≤ 6) (hs : s ≤ 14 * c) (hp : p < 16 ^ c) (hj : j ≤ i + f) : rdG f i (c, s, p, some j) := by
  refine ⟨hc, by show s ≤ 98; omega, Nat.lt_of_lt_of_le hp (Nat.pow_le_pow_right (by decide) (by omega)), (fun h => by cases h), fun i' h => ?_⟩
  cases h
  exact hj
theorem rd_ok {w : Nat → Nat} : ∀ f i o (e : Bool) c s p, c ≤ 6 → (e = false → c ≤ 5) → (∀ v, o = some v → v ≤ 14) → s ≤ 14 * c → p < 16 ^ c → sm p c = s → rdG f i (rd w f i o e c s p)
  | 0, i, none, e, c, s, p, hc, he, ho, hs, hp, hm => rdG_some hc hs hp (Nat.le_refl _)
  | 0, i, some v, e, c, s, p, hc, he, ho, hs, hp, hm => by
    have hv := ho v rfl
    obtain ⟨d1, d2⟩ := dig_add (v := v) hp (by omega)
    show rdG 0 i (if e = true then (c, s + v, p + v * 16 ^ c, none) else (c + 1, s + v, p + v * 16 ^ c, none))
    have h7 : 16 ^ (c + 1) ≤ 16 ^ 7 := Nat.pow_le_pow_right (by decide) (by omega)
    cases e with
    | true =>
      rw [if_pos rfl]
      exact ⟨hc, by show s + v ≤ 98; omega, by show p + v * 16 ^ c < 16 ^ 7; omega, fun _ => ⟨by show sm (p + v * 16 ^ c) (c + 1) = s + v; rw [d1, hm], d2⟩, fun i' h => by cases h⟩
    | false =>
      have hc5 := he rfl
      rw [if_neg (by decide)]
      refine ⟨by show c + 1 ≤ 6; omega, by show s + v ≤ 98; omega, by show p + v * 16 ^ c < 16 ^ 7; omega, fun _ => ⟨by show sm (p + v * 16 ^ c) (c + 1 + 1) = s + v; rw [sm_up d2, d1, hm], ?_⟩, fun i' h => by cases h⟩
      show p + v * 16 ^ c < 16 ^ (c + 1 + 1)
      exact Nat.lt_of_lt_of_le d2 (Nat.pow_le_pow_right (by decide) (by omega))
  | f + 1, i, o, e, c, s, p, hc, he, ho, hs, hp, hm => by
    have up : ∀ q, rdG f (i + 1) q → rdG (f + 1) i q := fun q h => ⟨h.1, h.2.1, h.2.2.1, h.2.2.2.1, fun i' z => by have := h.2.2.2.2 i' z; omega⟩
    unfold rd
    by_cases q : cg o (w i) = true
    · rw [if_pos q]
      exact up _ (rd_ok f (i + 1) _ e c s p hc he (fun v h => by cases h; exact (gr_le q).1) hs hp hm)
    · rw [if_neg q]
      cases o with
      | none => exact rdG_some hc hs hp (by omega)
      | some v =>
        have hv := ho v rfl
        obtain ⟨d1, d2⟩ := dig_add (v := v) hp (by omega)
        show rdG (f + 1) i (if e = true then (c, s, p, some i) else if cs c (w i) = true then rd w f (i + 1) none (decide (w i = 47)) (c + 1) (s + v) (p + v * 16 ^ c) else (c, s, p, some i))
        cases e with
        | true =>
          rw [if_pos rfl]
          exact rdG_some hc hs hp (by omega)
        | false =>
          have hc5 := he rfl
          rw [if_neg (by decide)]
          by_cases q2 : cs c (w i) = true
          · rw [if_pos q2]
            obtain ⟨g1, g2⟩ := cs_le q2 hc5
            exact up _ (rd_ok f (i + 1) none _ (c + 1) (s + v) _ g1 g2 (fun _ h => by cases h) (by omega) d2 (by rw [d1, hm]))
          · rw [if_neg q2]
            exact rdG_some hc hs hp (by omega)
theorem rdW_ok (W : Wd) : rdG (wL W) 0 (rdW W) := rd_ok (wL W) 0 none false 0 0 0 (by decide) (fun _ => by decide) (fun _ h => by cases h) (Nat.le_refl _) (by decide) rfl
def q_load (W : Wd) : Int32 × Wd := if (rdW W).2.2.2.isSome = true then (oz_c (-3), W) else if (rdW W).1 < 2 ∨ (rdW W).2.1 = 0 then (oz_c (-2), W) else if 14 < (rdW W).2.1 then (oz_c (-4), W) else (nI (rdW W).2.1, wPad (wRec W (sNew (wS W) (rdW W).1 (rdW W).2.2.1)) (wP W) 0)
theorem nI_n6 {i : Nat} (h : i < 100) : nI i ≠ oz_c (-6) := nu_ne i h
def s_X5_load : oz_S := oz_t0 0 fun N G R J Φ => ∃ W, CR N G R W ∧ wOk W ∧ pQ N G W Φ (q_load W)
def q_exact (W : Wd) (x y : Int32) : Int32 × Wd := if (x < nI 0 ∨ nI 14 < x) ∨ (y < nI 1 ∨ nI 6 < y) then (oz_c (-2), W) else (nI (dg (xf (nt x)) (nt y - 1)), W)
def t_X5_exact : oz_T := (P_X5_exact, e_X5, [(85, 0, 1, 0, s_X1_exactFromStore), (135, 0, 2, 0, s_X1_seedsAt)], (true, 44, none, false, 0), (0, fun _ => 0))
def s_X5_exact : oz_S := oz_t2 0 fun x y N G R J Φ => ∃ W, CR N G R W ∧ wOk W ∧ pQ N G W Φ (q_exact W x y)
theorem I_X5_exact : oz_Imp t_X5_exact 3 s_X5_exact := by
  intro Φ A a N G R J hN hS hC
  obtain ⟨x, y, rfl, W, hCR, hok, h⟩ := oz_t2_e hS
  unfold q_exact at h
  have a21 : ((x < nI 0 ∨ nI 14 < x) ∨ (y < nI 1 ∨ nI 6 < y)) → A 21 [some (.ref 0), some (.int x), some (.int y)] [] N G R J 0 := fun q => by
    rw [if_pos q] at h
    exact hC.1 [] 20 21 _ _ _ _ _ _ _ (pQ_0 h hCR)
  have a24 : ¬ ((x < nI 0 ∨ nI 14 < x) ∨ (y < nI 1 ∨ nI 6 < y)) → A 24 [some (.ref 0), some (.int x), some (.int y)] [] N G R J 0 := fun q => by
    rw [if_neg q] at h
    obtain ⟨hx, -, hx2⟩ := rng (x := x) (a := 0) (b := 14) (fun z => q (Or.inl (Or.inl z))) (fun z => q (Or.inl (Or.inr z))) (by decide) (by decide)
    obtain ⟨hy, hy1, hy2⟩ := rng (x := y) (a := 1) (b := 6) (fun z => q (Or.inr (Or.inl z))) (fun z => q (Or.inr (Or.inr z))) (by decide) (by decide)
    have e : rw_at (nI (xf (nt x))) (y - nI 1) = nI (dg (xf (nt x)) (nt y - 1)) := by
      conv => lhs; rw [hy]
      rw [pk_sub (by omega)]
      exact rw_at_n (by have := xf_lt (nt x) (by omega); omega) (by omega)
    rw [← e] at h
    exact hC.1 [] 40 24 _ _ _ _ _ _ _ ⟨nt x, hx, by omega, pQ_0 h hCR⟩
  refine hC.1 [21, 24] 40 0 _ _ _ _ _ _ _ ⟨fun q => a21 (Or.inl (Or.inl q)), fun q => ⟨fun q2 => a21 (Or.inl (Or.inr q2)), fun q2 => ⟨fun q3 => a21 (Or.inr (Or.inl q3)), fun q3 => ⟨fun q4 => a24 ?_, fun q4 => a21 (Or.inr (Or.inr ?_))⟩⟩⟩⟩
  · have q4 : y ≤ nI 6 := q4
    exact fun z => z.elim (fun z => z.elim q q2) (fun z => z.elim q3 (fun z => Int32.not_lt.mpr q4 z))
  · have q4 : ¬ y ≤ nI 6 := q4
    exact Int32.not_le.mp q4
