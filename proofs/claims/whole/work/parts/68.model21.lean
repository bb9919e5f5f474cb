/-! the model's pad: numbers -/
/-- a number up to 14 at a place: it, or none; the place behind it -/
def nm (w : Nat → Nat) (len i : Nat) : Option Nat × Nat := if i < len ∧ 48 ≤ w i ∧ w i ≤ 57 then (if w i = 49 ∧ i + 1 < len ∧ 48 ≤ w (i + 1) ∧ w (i + 1) ≤ 52 then (some (w (i + 1) - 38), i + 2) else (some (w i - 48), i + 1)) else (none, i)
def nv : Option Nat → Int32
  | none => oz_c (-3)
  | some v => nI v
theorem nm_le {w : Nat → Nat} {len i : Nat} (h : i ≤ len) : (nm w len i).2 ≤ len ∧ (∀ v, (nm w len i).1 = some v → v ≤ 14) ∧ ((nm w len i).1 = none → (nm w len i).2 = i) := by
  unfold nm
  by_cases q : i < len ∧ 48 ≤ w i ∧ w i ≤ 57
  · rw [if_pos q]
    by_cases q2 : w i = 49 ∧ i + 1 < len ∧ 48 ≤ w (i + 1) ∧ w (i + 1) ≤ 52
    · rw [if_pos q2]
      exact ⟨by show i + 2 ≤ len; omega, fun v hv => by cases hv; omega, fun z => by cases z⟩
    · rw [if_neg q2]
      exact ⟨by show i + 1 ≤ len; omega, fun v hv => by cases hv; omega, fun z => by cases z⟩
  · rw [if_neg q]
    exact ⟨h, (fun v hv => by cases hv), fun _ => rfl⟩
theorem se_n {w : Nat → Nat} {len i a b : Nat} (hw : i < len → w i < 128) (ha : a < 128) (hb : b < 128) : se w len i (nI a) (nI b) = true ↔ (i < len ∧ a ≤ w i ∧ w i ≤ b) := by
  unfold se
  rw [Bool.and_eq_true, decide_eq_true_eq]
  refine ⟨fun h => ?_, fun h => ⟨h.1, ?_⟩⟩
  · have hw := hw h.1
    have h2 := inb_t.mp h.2
    rw [nI_ltI (by omega) (by omega), nI_ltI (by omega) (by omega)] at h2
    exact ⟨h.1, by omega, by omega⟩
  · have hw := hw h.1
    refine inb_t.mpr ?_
    rw [nI_ltI (by omega) (by omega), nI_ltI (by omega) (by omega)]
    omega
/-- what is read behind a number -/
def af (w : Nat → Nat) (f j v : Nat) (e : Bool) (c s p : Nat) : Nat × Nat × Nat × Option Nat := match f with
  | 0 => if e = true then (c, s + v, p + v * 16 ^ c, none) else (c + 1, s + v, p + v * 16 ^ c, none)
  | f + 1 => if e = true then (c, s, p, some j) else if cs c (w j) = true then rd w f (j + 1) none (decide (w j = 47)) (c + 1) (s + v) (p + v * 16 ^ c) else (c, s, p, some j)
theorem rd_af {w : Nat → Nat} {f j v c s p : Nat} {e : Bool} (h : 0 < f → cg (some v) (w j) = false) : rd w f j (some v) e c s p = af w f j v e c s p := by
  cases f with
  | zero => rfl
  | succ f =>
    show (if cg (some v) (w j) = true then _ else _) = _
    rw [if_neg (by rw [h (Nat.succ_pos _)]; decide)]
    rfl
theorem rd_n {w : Nat → Nat} {len i f c s p : Nat} {e : Bool} (h : f + i = len) : rd w f i none e c s p = (match (nm w len i).1 with
    | none => (c, s, p, some i)
    | some v => af w (len - (nm w len i).2) (nm w len i).2 v e c s p) := by
  cases f with
  | zero =>
    have e1 : nm w len i = (none, i) := if_neg (by omega)
    rw [e1]
    rfl
  | succ f =>
    have e0 : rd w (f + 1) i none e c s p = if cg none (w i) = true then rd w f (i + 1) (some (gr none (w i))) e c s p else (c, s, p, some i) := rfl
    by_cases q : 48 ≤ w i ∧ w i ≤ 57
    · have hg : cg none (w i) = true := by
        unfold cg
        rw [decide_eq_true q.1, decide_eq_true q.2]
        rfl
      rw [e0, if_pos hg]
      have eg : gr none (w i) = w i - 48 := rfl
      rw [eg]
      have e1 : nm w len i = if w i = 49 ∧ i + 1 < len ∧ 48 ≤ w (i + 1) ∧ w (i + 1) ≤ 52 then (some (w (i + 1) - 38), i + 2) else (some (w i - 48), i + 1) := if_pos ⟨by omega, q⟩
      rw [e1]
      by_cases q2 : w i = 49 ∧ i + 1 < len ∧ 48 ≤ w (i + 1) ∧ w (i + 1) ≤ 52
      · rw [if_pos q2]
        show _ = af w (len - (i + 2)) (i + 2) (w (i + 1) - 38) e c s p
        cases f with
        | zero => omega
        | succ f =>
          have e2 : rd w (f + 1) (i + 1) (some (w i - 48)) e c s p = if cg (some (w i - 48)) (w (i + 1)) = true then rd w f (i + 2) (some (gr (some (w i - 48)) (w (i + 1)))) e c s p else af w (f + 1) (i + 1) (w i - 48) e c s p := rfl
          have hg2 : cg (some (w i - 48)) (w (i + 1)) = true := by
            show (decide (48 ≤ w (i + 1)) && decide (w (i + 1) ≤ 57) && (!(decide (w i - 48 = 0)) && decide ((w i - 48) * 10 + w (i + 1) - 48 ≤ 14))) = true
            rw [decide_eq_true q2.2.2.1, decide_eq_true (show w (i + 1) ≤ 57 by omega), decide_eq_false (show ¬ w i - 48 = 0 by omega), decide_eq_true (show (w i - 48) * 10 + w (i + 1) - 48 ≤ 14 by omega)]
            rfl
          have eg2 : gr (some (w i - 48)) (w (i + 1)) = w (i + 1) - 38 := by
            show (w i - 48) * 10 + w (i + 1) - 48 = _
            omega
          rw [e2, if_pos hg2, eg2, show len - (i + 2) = f by omega]
          refine rd_af (fun _ => ?_)
          show (decide (48 ≤ w (i + 2)) && decide (w (i + 2) ≤ 57) && (!(decide (w (i + 1) - 38 = 0)) && decide ((w (i + 1) - 38) * 10 + w (i + 2) - 48 ≤ 14))) = false
          rw [decide_eq_false (show ¬ (w (i + 1) - 38) * 10 + w (i + 2) - 48 ≤ 14 by omega), Bool.and_false, Bool.and_false]
      · rw [if_neg q2]
        show _ = af w (len - (i + 1)) (i + 1) (w i - 48) e c s p
        rw [show len - (i + 1) = f by omega]
        refine rd_af (fun hf => ?_)
        cases z : cg (some (w i - 48)) (w (i + 1)) with
        | false => rfl
        | true =>
          unfold cg at z
          simp only [Bool.and_eq_true, decide_eq_true_eq, Bool.not_eq_true', decide_eq_false_iff_not] at z
          exact absurd ⟨by omega, by omega, by omega, by omega⟩ q2
    · have hg : ¬ cg none (w i) = true := by
        intro z
        unfold cg at z
        simp only [Bool.and_eq_true, decide_eq_true_eq] at z
        exact q ⟨z.1.1, z.1.2⟩
      rw [e0, if_neg hg]
      have e1 : nm w len i = (none, i) := if_neg (fun z => q z.2)
      rw [e1]
def t_X6_number : oz_T := (P_X6_number, e_X6, [(169, 1, 3, 0, s_X6_sees)], (true, 58, none, false, 0), (0, fun _ => 0))
def s_X6_number : oz_S := oz_t0 44 fun N G R J Φ => ∃ hi sl w len i, R = rmR hi sl ∧ PdM G w len ∧ G 44 8 = nI i ∧ i ≤ len ∧ ∀ G' : oz_G, (∀ a, a ≠ 44 → G' a = G a) → (∀ k, k ≠ 8 → G' 44 k = G 44 k) → G' 44 8 = nI (nm w len i).2 → Φ (some (.int (nv (nm w len i).1))) N G' R J
theorem I_X6_number : oz_Imp t_X6_number 2 s_X6_number := by
  intro Φ A a N G R J hN hS hC
  obtain ⟨rfl, hi, sl, w, len, i, rfl, hP, e8, hil, h⟩ := oz_t0_e hS
  obtain ⟨p1, p2, p3⟩ := id hP
  refine hC.1 [14] 60 0 _ _ _ _ _ _ _ ⟨hi, sl, w, len, i, rfl, hP, e8, by omega, fun q => ?_, fun q => ?_⟩
  · have q : ¬ b2 (se w len i (nI 48) (nI 57)) = nI 0 := q
    rw [b2_t, se_n (fun z => (p3 i z).2) (by decide) (by decide)] at q
    obtain ⟨v1, v2⟩ := p3 i q.1
    have ev : G 50 i - nI 48 = nI (w i - 48) := by rw [v1, pk_sub (by omega)]
    have e9 : G 44 8 + nI 1 = nI (i + 1) := by rw [e8, nI_add]
    have hP1 : PdM (oz2 G 44 8 (nI (i + 1))) w len := ⟨by rw [oz2_ne (by decide)]; exact p1, p2, fun j hj => by rw [oz2_row (by decide)]; exact p3 j hj⟩
    have fin : ¬ (w i = 49 ∧ i + 1 < len ∧ 48 ≤ w (i + 1) ∧ w (i + 1) ≤ 52) → Φ (some (.int (nI (w i - 48)))) N (oz2 G 44 8 (nI (i + 1))) (rmR hi sl) J := fun z => by
      have e1 : nm w len i = (some (w i - 48), i + 1) := by
        unfold nm
        rw [if_pos q, if_neg z]
      have hf := h (oz2 G 44 8 (nI (i + 1))) (fun a ha => oz2_row ha) (fun k hk => oz2_ne hk) (by rw [e1, oz2_self])
      rw [e1] at hf
      exact hf
    have a37 : A 37 [some (.ref 44), some (.int (nI (w i - 48)))] [] N (oz2 G 44 8 (nI (i + 1))) (rmR hi sl) J 0 := by
      refine hC.1 [] 90 37 _ _ _ _ _ _ _ ⟨fun z => ?_, fun z => ⟨hi, sl, w, len, i + 1, rfl, hP1, by rw [oz2_self], by omega, fun z2 => ?_, fun z2 => ?_⟩⟩
      · have z : ¬ nI (w i - 48) = nI 1 := z
        rw [nI_eq (by omega) (by decide)] at z
        exact fin (fun y => by omega)
      · have z2 : b2 (se w len (i + 1) (nI 48) (nI 52)) = nI 0 := z2
        have z2 : ¬ (i + 1 < len ∧ 48 ≤ w (i + 1) ∧ w (i + 1) ≤ 52) := fun y => by
          rw [(se_n (fun z => (p3 (i + 1) z).2) (by decide) (by decide)).mpr y] at z2
          exact absurd z2 (by decide)
        exact fin (fun y => z2 y.2)
      · have z : ¬ ¬ nI (w i - 48) = nI 1 := z
        have z := Classical.not_not.mp z
        rw [nI_eq (by omega) (by decide)] at z
        have z2 : ¬ b2 (se w len (i + 1) (nI 48) (nI 52)) = nI 0 := z2
        rw [b2_t, se_n (fun z => (p3 (i + 1) z).2) (by decide) (by decide)] at z2
        obtain ⟨u1, u2⟩ := p3 (i + 1) z2.1
        have e1 : nm w len i = (some (w (i + 1) - 38), i + 2) := by
          unfold nm
          rw [if_pos q, if_pos ⟨by omega, z2⟩]
        have hf := h (oz2 (oz2 G 44 8 (nI (i + 1))) 44 8 (nI (i + 1) + nI 1)) (fun a ha => by rw [oz2_row ha, oz2_row ha]) (fun k hk => by rw [oz2_ne hk, oz2_ne hk]) (by rw [e1, oz2_self, nI_add])
        rw [e1] at hf
        have ew : nI 10 + oz2 G 44 8 (nI (i + 1)) 50 (i + 1) - nI 48 = nI (w (i + 1) - 38) := by
          rw [oz2_row (by decide), u1, nI_add, pk_sub (by omega)]
          congr 1
          omega
        have hf : Φ (some (.int (nI (w (i + 1) - 38)))) N (oz2 (oz2 G 44 8 (nI (i + 1))) 44 8 (nI (i + 1) + nI 1)) (rmR hi sl) J := hf
        rw [← ew] at hf
        exact ⟨i + 1, by rw [oz2_self], by show i + 1 < 40; omega, hf⟩
    rw [← ev, ← e9] at a37
    exact hC.1 [37] 60 14 _ _ _ _ _ _ _ ⟨i, e8, by show i < 40; omega, a37⟩
  · have q : ¬ ¬ b2 (se w len i (nI 48) (nI 57)) = nI 0 := q
    have q := Classical.not_not.mp q
    have q : ¬ (i < len ∧ 48 ≤ w i ∧ w i ≤ 57) := fun y => by
      rw [(se_n (fun z => (p3 i z).2) (by decide) (by decide)).mpr y] at q
      exact absurd q (by decide)
    have e1 : nm w len i = (none, i) := if_neg q
    have hf := h G (fun _ _ => rfl) (fun _ _ => rfl) (by rw [e1]; exact e8)
    rw [e1] at hf
    exact hf
