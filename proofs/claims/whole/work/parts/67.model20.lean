/-! the model's public methods: put -/
def t_X6_put : oz_T := (P_X6_put, e_X6, [(52, 0, 3, 0, s_X6_inn)], (true, 58, none, false, 0), (0, fun _ => 0))
def s_X6_put : oz_S := fun a N G R J Φ => match a with
  | [.ref t, .long x] => t = 44 ∧ ∃ hi sl W, R = rmR hi sl ∧ MR G W ∧ wOk W ∧ pM N G R J Φ (q_put W x)
  | _ => False
theorem cin_0 : ∀ f k, cin f 0 k = k
  | 0, _ => rfl
  | _ + 1, _ => rfl
theorem I_X6_put : oz_Imp t_X6_put 7 s_X6_put := by
  intro Φ A a N G R J hN hS hC
  obtain ⟨t, x, rfl, rfl, hi, sl, W, rfl, hM, hok, h⟩ : ∃ t x, a = [.ref t, .long x] ∧ t = 44 ∧ ∃ hi sl W, R = rmR hi sl ∧ MR G W ∧ wOk W ∧ pM N G R J Φ (q_put W x) := by
    unfold s_X6_put at hS
    split at hS
    · exact ⟨_, _, rfl, hS⟩
    · exact hS.elim
  obtain ⟨m1, m2, m3, m4, m5, m6, m7, m8⟩ := id hM
  unfold q_put at h
  have hX : x.toBitVec.toNat < 2 ^ 64 := x.toBitVec.isLt
  have hx := lN_of x
  generalize x.toBitVec.toNat = X at hX hx h
  subst hx
  have stay : ∀ G2 : oz_G, (∀ a, a ≠ 51 → G2 a = G a) → MR G2 W := fun G2 g => ⟨RowR_fr (fun r hr => by rw [g 45 (by decide)]) m1, by rw [g 44 (by decide)]; exact m2, HsM_fr (g 46 (by decide)) _ m3, SlM_fr (g 49 (by decide)) (g 48 (by decide)) m4, SlM_fr (g 49 (by decide)) (g 48 (by decide)) m5, by rw [g 44 (by decide)]; exact m6, m7, fun j hj => by rw [g 50 (by decide)]; exact m8 j hj⟩
  have loop : ∀ m, m ≤ 8 → wL W + m ≤ 40 → (∀ i, i < m → 33 ≤ byt X i ∧ byt X i ≤ 126) → pM N G (rmR hi sl) J Φ (nI (wL W + m), wPad W (ptW (wP W) (wL W) m X) (wL W + m)) → ∀ k t (G2 : oz_G) (v : Option Value), k + t = m → PdM G2 (ptW (wP W) (wL W) m X) (wL W + t) → (∀ i, i ≠ 44 → i ≠ 50 → i ≠ 51 → G2 i = G i) → (∀ j, j ≠ 7 → G2 44 j = G 44 j) → (∀ i, i < m → G2 51 i = nI (byt X i)) → A 92 [some (.ref 44), some (.long (lN X)), none, v, none, some (.int (nI m)), some (.int (nI k - nI 1))] [] N G2 (rmR hi sl) J 0 := by
    intro m hm8 hm40 hb hf k
    induction k with
    | zero =>
      intro t G2 v hkt hP2 hG2 hG3 hc
      have ht : t = m := by omega
      subst ht
      have hf := hf G2 ⟨RowR_fr (fun r hr => by rw [hG2 45 (by decide) (by decide) (by decide)]) m1, by rw [hG3 5 (by decide)]; exact m2, HsM_fr (hG2 46 (by decide) (by decide) (by decide)) _ m3, SlM_fr (hG2 49 (by decide) (by decide) (by decide)) (hG2 48 (by decide) (by decide) (by decide)) m4, SlM_fr (hG2 49 (by decide) (by decide) (by decide)) (hG2 48 (by decide) (by decide) (by decide)) m5, hP2⟩ (fun i hi => hG2 i (by omega) (by omega) (by omega)) (hG3 21 (by decide))
      have hf : Φ (some (.int (nI (wL W + t)))) N G2 (rmR hi sl) J := hf
      rw [← hP2.1] at hf
      exact hC.1 [] 40 92 _ _ _ _ _ _ _ ⟨fun _ => hf, fun q => absurd (show nI 0 - nI 1 < 0 by decide) q⟩
    | succ k ih =>
      intro t G2 v hkt hP2 hG2 hG3 hc
      obtain ⟨p1, p2, p3⟩ := hP2
      have e1 : nI (k + 1) - nI 1 = nI k := by rw [pk_sub (by omega)]; rfl
      have eb : ptW (wP W) (wL W) m X (wL W + t) = byt X k := by
        unfold ptW
        rw [if_neg (by omega)]
        congr 1
        omega
      have hbk := hb k (by omega)
      have hP3 : PdM (oz2 (oz2 G2 50 (wL W + t) (nI (byt X k))) 44 7 (nI (wL W + t + 1))) (ptW (wP W) (wL W) m X) (wL W + (t + 1)) := by
        refine ⟨rfl, by omega, fun j hj => ?_⟩
        show (if j = wL W + t then nI (byt X k) else G2 50 j) = _ ∧ _
        by_cases q : j = wL W + t
        · rw [if_pos q, q, eb]
          exact ⟨rfl, by omega⟩
        · rw [if_neg q]
          exact p3 j (by omega)
      have hih := ih (t + 1) _ v (by omega) hP3 (fun i a1 a2 a3 => by rw [oz2_row a1, oz2_row a2]; exact hG2 i a1 a2 a3) (fun j hj => by rw [oz2_ne hj, oz2_row (by decide)]; exact hG3 j hj) (fun i hi => by rw [oz2_row (by decide), oz2_row (by decide)]; exact hc i hi)
      have ec : G2 51 k = nI (byt X k) := hc k (by omega)
      have e9 : oz2 G2 50 (wL W + t) (nI (byt X k)) 44 7 + nI 1 = nI (wL W + t + 1) := by rw [oz2_row (by decide), p1, nI_add]
      rw [← e9, ← ec, ← mx_dn (nI k), ← e1] at hih
      exact hC.1 [92] 60 92 _ _ _ _ _ _ _ ⟨fun q => absurd (show nI (k + 1) - nI 1 < 0 from q) (by rw [e1]; exact nI_pos (by omega)), fun _ => ⟨k, e1, by show k < 8; omega, wL W + t, p1, by show wL W + t < 40; omega, hih⟩⟩
  have mid : ∀ k (Y : Nat) (G2 : oz_G) (v6 : Option Value), k ≤ 8 → cin 8 X 0 = k → (∀ a, a ≠ 51 → G2 a = G a) → (∀ i, i < k → G2 51 i = nI (byt X i)) → A 63 [some (.ref 44), some (.long (lN X)), none, some (.long (lN Y)), none, some (.int (nI k)), v6] [] N G2 (rmR hi sl) J 0 := by
    intro k Y G2 v6 hk8 hcin g1 g2
    rw [hcin] at h
    have e7 : G2 44 7 = nI (wL W) := by rw [g1 44 (by decide)]; exact m6
    refine hC.1 [92] 80 63 _ _ _ _ _ _ _ ⟨fun q => ⟨fun q2 => ?_, fun q2 => ?_⟩, fun q => ?_⟩
    · have q : ¬ nI k = nI 0 := q
      rw [nI_eq (by omega) (by decide)] at q
      have q2 : G2 44 7 + nI k ≤ nI 40 := q2
      rw [e7, nI_add, nI_leI (by omega) (by decide)] at q2
      rw [if_neg q, if_neg (by omega)] at h
      obtain ⟨m, h1, h2, h3⟩ := cin_ok 8 X 0 (by rw [hcin]; exact q)
      have hmk : m = k := by omega
      subst hmk
      have hP0 : PdM G2 (ptW (wP W) (wL W) m X) (wL W + 0) := by
        refine ⟨e7, m7, fun j hj => ?_⟩
        have e : ptW (wP W) (wL W) m X j = wP W j := if_pos hj
        rw [e, g1 50 (by decide)]
        exact m8 j hj
      exact loop m h2 q2 h3 h m 0 G2 _ (by omega) hP0 (fun i _ _ a3 => g1 i a3) (fun j _ => by rw [g1 44 (by decide)]) g2
    · have q : ¬ nI k = nI 0 := q
      rw [nI_eq (by omega) (by decide)] at q
      have q2 : ¬ G2 44 7 + nI k ≤ nI 40 := q2
      rw [e7, nI_add, nI_leI (by omega) (by decide)] at q2
      rw [if_neg q, if_pos (by omega)] at h
      exact h G2 (stay G2 g1) (fun i hi => g1 i (by omega)) (by rw [g1 44 (by decide)])
    · have q : ¬ ¬ nI k = nI 0 := q
      have q := Classical.not_not.mp q
      rw [nI_eq (by omega) (by decide)] at q
      rw [if_pos q] at h
      exact h G2 (stay G2 g1) (fun i hi => g1 i (by omega)) (by rw [g1 44 (by decide)])
  have first : ∀ f Y k (G2 : oz_G), k + f = 8 → Y = X / 256 ^ k → cin f Y k = cin 8 X 0 → (∀ a, a ≠ 51 → G2 a = G a) → (∀ i, i < k → G2 51 i = nI (byt X i)) → A 5 [some (.ref 44), some (.long (lN X)), none, some (.long (lN Y)), none, some (.int (nI k)), none] [] N G2 (rmR hi sl) J 0 := by
    intro f
    induction f with
    | zero =>
      intro Y k G2 hk hY e g1 g2
      have hk : k = 8 := by omega
      subst hk
      have hY0 : Y = 0 := by rw [hY, Nat.div_eq_of_lt (by omega)]
      rw [hY0, cin_0] at e
      rw [hY0]
      exact hC.1 [63] 40 5 _ _ _ _ _ _ _ ⟨fun _ => mid 8 0 G2 none (by decide) e.symm g1 g2, fun q => absurd (show lg_cmp (lN 0) (lN 0) = 0 by rw [lg_cmp_eq]) q⟩
    | succ f ih =>
      intro Y k G2 hk hY e g1 g2
      have hYX : Y ≤ X := by rw [hY]; exact Nat.div_le_self _ _
      have hY64 : Y < 2 ^ 64 := by omega
      have hm : Y % 256 < 256 := Nat.mod_lt _ (by decide)
      have hb : byt X k = Y % 256 := by unfold byt; rw [hY]
      have ec : (lN Y &&& lN 255).toInt32 = nI (Y % 256) := by rw [mx_m255 hY64, mx_l2i]
      have ev : oz2 G2 51 k ((lN Y &&& lN 255).toInt32) 51 k = nI (Y % 256) := by rw [oz2_self, ec]
      have far : ∀ a, a ≠ 51 → oz2 G2 51 k ((lN Y &&& lN 255).toInt32) a = G a := fun a ha => by rw [oz2_row ha]; exact g1 a ha
      refine hC.1 [5, 63] 90 5 _ _ _ _ _ _ _ ⟨fun q => ?_, fun q => ⟨fun q2 => absurd (show nI 8 ≤ nI k from q2) (nI_ge (by omega) (by decide)), fun _ => ⟨k, rfl, by show k < 8; omega, k, rfl, by show k < 8; omega, _, rfl, fun q3 => ?_, fun q3 => ?_⟩⟩⟩
      · have q : lg_cmp (lN Y) (lN 0) = 0 := q
        rw [lg_cmp_eq, mx_l0 hY64] at q
        rw [q, cin_0] at e
        exact mid k Y G2 none (by omega) e.symm g1 g2
      · have q : ¬ lg_cmp (lN Y) (lN 0) = 0 := q
        rw [lg_cmp_eq, mx_l0 hY64] at q
        have q3 : ¬ b2 (inb (oz2 G2 51 k ((lN Y &&& lN 255).toInt32) 51 k) (nI 33) (nI 126)) = nI 0 := q3
        rw [b2_t, inb_t, ev, nI_ltI (by omega) (by decide), nI_ltI (by decide) (by omega)] at q3
        have e0 : cin (f + 1) Y k = cin f (Y / 256) (k + 1) := by
          show (if Y % 256 = 0 then _ else _) = _
          rw [if_neg (by omega), if_neg q3]
        rw [e0] at e
        have hih := ih (Y / 256) (k + 1) (oz2 G2 51 k ((lN Y &&& lN 255).toInt32)) (by omega) (by rw [hY, Nat.div_div_eq_div_mul, Nat.pow_succ]) e far (fun i hi => by
          by_cases z : i = k
          · rw [z, ev, hb]
          · rw [oz2_ne z]; exact g2 i (by omega))
        rw [← mx_sh8 hY64, ← nI_add k 1] at hih
        exact hih
      · have q : ¬ lg_cmp (lN Y) (lN 0) = 0 := q
        rw [lg_cmp_eq, mx_l0 hY64] at q
        have q3 : ¬ ¬ b2 (inb (oz2 G2 51 k ((lN Y &&& lN 255).toInt32) 51 k) (nI 33) (nI 126)) = nI 0 := q3
        have q3 := Classical.not_not.mp q3
        rw [b2_f, inb_f, ev, nI_ltI (by omega) (by decide), nI_ltI (by decide) (by omega)] at q3
        have e0 : cin (f + 1) Y k = 0 := by
          show (if Y % 256 = 0 then _ else _) = _
          by_cases z : Y % 256 = 0
          · rw [if_pos z, if_neg q]
          · rw [if_neg z, if_pos q3]
        rw [e0] at e
        rw [if_pos e.symm] at h
        exact h _ (stay _ far) (fun i hi => far i (by omega)) (by rw [far 44 (by decide)])
  exact hC.1 [5] 30 0 _ _ _ _ _ _ _ (first 8 X 0 G (by decide) (by rw [Nat.pow_zero, Nat.div_one]) rfl (fun _ _ => rfl) (fun i hi => absurd hi (Nat.not_lt_zero _)))
theorem fit_X6_put : ∀ a N G R J Φ, s_X6_put a N G R J Φ → oz_fit a 7 := by
  intro a N G R J Φ h
  unfold s_X6_put at h
  split at h
  · exact oz_fit_of (Nat.le_of_ble_eq_true rfl) rfl
  · exact h.elim
theorem rec_X6_put : oz_rec s_X6_put 58 5 1 := by
  intro Φ a N G R J hN h _
  unfold s_X6_put at h
  split at h
  · refine ⟨_, _, rfl, ?_⟩
    rw [h.1]
    exact ⟨rfl, Nat.lt_of_lt_of_le (by decide) hN⟩
  · exact h.elim
