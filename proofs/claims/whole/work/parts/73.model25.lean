/-! the model's search: its table -/
def mo (t : Nat → Nat) (y : Nat) : Nat → Nat → Nat
  | 0, s => s
  | f + 1, s => if t s = 0 ∨ t s = y then s else mo t y f ((s + 1) % 131071)
def mh (x : Nat) : Nat := x * 40503 % 2 ^ 32 % 2 ^ 31 % 131071
def mot (t : Nat → Nat) (x : Nat) : Nat := mo t (x + 1) 131071 (mh x)
theorem mh_lt (x : Nat) : mh x < 131071 := Nat.mod_lt _ (by decide)
theorem mo_lt {t : Nat → Nat} {y : Nat} : ∀ f s, s < 131071 → mo t y f s < 131071
  | 0, s, h => h
  | f + 1, s, h => by
    unfold mo
    split
    · exact h
    · exact mo_lt f _ (Nat.mod_lt _ (by decide))
theorem mot_lt (t : Nat → Nat) (x : Nat) : mot t x < 131071 := mo_lt _ _ (mh_lt x)
theorem mo_keep {t : Nat → Nat} {y r v : Nat} (hr : t r = 0) (hc : y ≠ 0) : ∀ f s, t (mo t y f s) = y → mo (up t r v) y f s = mo t y f s
  | 0, _, _ => rfl
  | f + 1, s, h => by
    unfold mo at h ⊢
    by_cases q : t s = 0 ∨ t s = y
    · rw [if_pos q] at h ⊢
      have hs : s ≠ r := by rintro rfl; omega
      rw [if_pos (by rw [up_n hs]; exact q)]
    · rw [if_neg q] at h ⊢
      have hs : s ≠ r := by rintro rfl; exact q (Or.inl hr)
      rw [if_neg (by rw [up_n hs]; exact q)]
      exact mo_keep hr hc f _ h
theorem mo_new {t : Nat → Nat} {y r : Nat} (hr : t r = 0) : ∀ f s, mo t y f s = r → mo (up t r y) y f s = r
  | 0, _, h => h
  | f + 1, s, h => by
    unfold mo at h ⊢
    by_cases q : t s = 0 ∨ t s = y
    · rw [if_pos q] at h
      subst h
      rw [if_pos (Or.inr up_s)]
    · rw [if_neg q] at h
      have hs : s ≠ r := by rintro rfl; exact q (Or.inl hr)
      rw [if_neg (by rw [up_n hs]; exact q)]
      exact mo_new hr f _ h
theorem mo_end {t : Nat → Nat} {y : Nat} : ∀ f s, s < 131071 → (∃ k, k < f ∧ t ((s + k) % 131071) = 0) → t (mo t y f s) = 0 ∨ t (mo t y f s) = y
  | 0, _, _, ⟨_, h, _⟩ => absurd h (Nat.not_lt_zero _)
  | f + 1, s, hs, ⟨k, hk, h⟩ => by
    unfold mo
    by_cases q : t s = 0 ∨ t s = y
    · rw [if_pos q]; exact q
    · rw [if_neg q]
      refine mo_end f _ (Nat.mod_lt _ (by decide)) ?_
      rcases k with _ | k
      · rw [Nat.add_zero, Nat.mod_eq_of_lt hs] at h
        exact absurd (Or.inl h) q
      · refine ⟨k, by omega, ?_⟩
        rw [show ((s + 1) % 131071 + k) % 131071 = (s + (k + 1)) % 131071 by omega]
        exact h
theorem mot_end {t : Nat → Nat} {x : Nat} (h : ∃ s, s < 131071 ∧ t s = 0) : t (mot t x) = 0 ∨ t (mot t x) = x + 1 := by
  obtain ⟨s, h1, h2⟩ := h
  have := mh_lt x
  refine mo_end 131071 _ this ⟨(s + 131071 - mh x) % 131071, Nat.mod_lt _ (by decide), ?_⟩
  rw [show (mh x + (s + 131071 - mh x) % 131071) % 131071 = s by omega]
  exact h2
/-- what the search has met -/
def QR (G : oz_G) (n : Nat) (L : List Nat) (D t : Nat → Nat) : Prop := G 44 21 = nI L.length ∧ (∀ i, i < L.length → G 55 i = nI (mco n (L.getD i 0)) ∧ G 56 i = nI (D i) ∧ ∃ s, s < 131071 ∧ G 57 i = nI s) ∧ (∀ s, s < 131071 → G 54 s = nI (t s) ∧ t s < 2 ^ 26) ∧ (∀ s, s < 131071 → t s ≠ 0 → ∃ i, i < L.length ∧ G 57 i = nI s ∧ t s = mco n (L.getD i 0) + 1) ∧ (∀ x, x ∈ L → t (mot t (mco n x)) = mco n x + 1) ∧ nz t 131071 ≤ L.length
theorem getD_l {L : List Nat} {c i : Nat} (h : i < L.length) : (L ++ [c]).getD i 0 = L.getD i 0 := by
  rw [List.getD_eq_getElem?_getD, List.getD_eq_getElem?_getD, List.getElem?_append_left h]
theorem getD_r {L : List Nat} {c : Nat} : (L ++ [c]).getD L.length 0 = c := by
  rw [List.getD_eq_getElem?_getD, List.getElem?_append_right (Nat.le_refl _), Nat.sub_self]
  rfl
theorem getD_m {L : List Nat} {i : Nat} (h : i < L.length) : L.getD i 0 ∈ L := by
  rw [List.getD_eq_getElem?_getD, List.getElem?_eq_getElem h]
  exact List.getElem_mem h
theorem QR_new {G : oz_G} {n c d : Nat} {L : List Nat} {D t : Nat → Nat} (h : QR G n L D t) (hn : n ≤ 6) (hl : L.length < 80000) (hz : t (mot t (mco n c)) = 0) : QR (oz2 (oz2 (oz2 (oz2 (oz2 G 54 (mot t (mco n c)) (nI (mco n c + 1))) 57 L.length (nI (mot t (mco n c)))) 55 L.length (nI (mco n c))) 56 L.length (nI d)) 44 21 (nI (L.length + 1))) n (L ++ [c]) (up D L.length d) (up t (mot t (mco n c)) (mco n c + 1)) := by
  obtain ⟨q1, q2, q3, q4, q5, q6⟩ := h
  have hsl := mot_lt t (mco n c)
  have hX := mco_lt (c := c) hn
  generalize hs : mot t (mco n c) = s at hz hsl
  have len : (L ++ [c]).length = L.length + 1 := by rw [List.length_append]; rfl
  refine ⟨by rw [oz2_self, len], fun i hi => ?_, fun r hr => ?_, fun r hr h0 => ?_, fun x hx => ?_, ?_⟩
  · rw [len] at hi
    rw [oz2_row (show (55 : Nat) ≠ 44 by decide), oz2_row (show (55 : Nat) ≠ 56 by decide), oz2_row (show (56 : Nat) ≠ 44 by decide), oz2_row (show (57 : Nat) ≠ 44 by decide), oz2_row (show (57 : Nat) ≠ 56 by decide), oz2_row (show (57 : Nat) ≠ 55 by decide)]
    by_cases z : i = L.length
    · rw [z, getD_r, oz2_self, oz2_self, oz2_self, up_s]
      exact ⟨rfl, rfl, s, hsl, rfl⟩
    · obtain ⟨a1, a2, a3⟩ := q2 i (by omega)
      rw [getD_l (by omega), oz2_ne z, oz2_ne z, oz2_ne z, up_n z, oz2_row (show (55 : Nat) ≠ 57 by decide), oz2_row (show (55 : Nat) ≠ 54 by decide), oz2_row (show (56 : Nat) ≠ 55 by decide), oz2_row (show (56 : Nat) ≠ 57 by decide), oz2_row (show (56 : Nat) ≠ 54 by decide), oz2_row (show (57 : Nat) ≠ 54 by decide)]
      exact ⟨a1, a2, a3⟩
  · rw [oz2_row (show (54 : Nat) ≠ 44 by decide), oz2_row (show (54 : Nat) ≠ 56 by decide), oz2_row (show (54 : Nat) ≠ 55 by decide), oz2_row (show (54 : Nat) ≠ 57 by decide)]
    by_cases z : r = s
    · rw [z, oz2_self, up_s]
      exact ⟨rfl, by omega⟩
    · rw [oz2_ne z, up_n z]
      exact q3 r hr
  · rw [len]
    have e57 : ∀ i, oz2 (oz2 (oz2 (oz2 (oz2 G 54 s (nI (mco n c + 1))) 57 L.length (nI s)) 55 L.length (nI (mco n c))) 56 L.length (nI d)) 44 21 (nI (L.length + 1)) 57 i = if i = L.length then nI s else G 57 i := fun i => by
      rw [oz2_row (show (57 : Nat) ≠ 44 by decide), oz2_row (show (57 : Nat) ≠ 56 by decide), oz2_row (show (57 : Nat) ≠ 55 by decide)]
      by_cases z : i = L.length
      · rw [if_pos z, z, oz2_self]
      · rw [if_neg z, oz2_ne z, oz2_row (show (57 : Nat) ≠ 54 by decide)]
    by_cases z : r = s
    · refine ⟨L.length, Nat.lt_succ_self _, ?_, ?_⟩
      · rw [e57, if_pos rfl, z]
      · rw [z, up_s, getD_r]
    · rw [up_n z] at h0 ⊢
      obtain ⟨i, a1, a2, a3⟩ := q4 r hr h0
      exact ⟨i, by omega, by rw [e57, if_neg (by omega)]; exact a2, by rw [getD_l a1]; exact a3⟩
  · rcases List.mem_append.mp hx with hx | hx
    · have hk := q5 x hx
      have e : mot (up t s (mco n c + 1)) (mco n x) = mot t (mco n x) := mo_keep hz (Nat.succ_ne_zero _) _ _ hk
      rw [e, up_n (fun z => by rw [z, hz] at hk; omega)]
      exact hk
    · have hx : x = c := List.mem_singleton.mp hx
      have e : mot (up t s (mco n c + 1)) (mco n c) = s := mo_new hz _ _ hs
      rw [hx, e, up_s]
  · have := nz_up (lw := t) (r := s) (v := mco n c + 1) 131071
    rw [if_pos hsl] at this
    rw [len]
    omega
theorem mx_mh {X : Nat} (h : X < 2 ^ 25) : (nI X * nI 40503 &&& nI 2147483647) - (nI X * nI 40503 &&& nI 2147483647) / nI 131071 * nI 131071 = nI (mh X) := by
  have e : nI X * nI 40503 &&& nI 2147483647 = nI (X * 40503 % 2 ^ 32 % 2 ^ 31) := by
    rw [pk_mul, nI_m, show nI 2147483647 = nI (2 ^ 31 - 1) by rfl, pk_andN (Nat.mod_lt _ (by decide)) 31 (by decide)]
  rw [e, pk_rem (Nat.mod_lt _ (by decide)) (by decide) (by decide)]
  rfl
theorem mx_ns {s : Nat} (h : s < 131071) : (if s = 131070 then nI 0 else nI s + nI 1) = nI ((s + 1) % 131071) := by
  by_cases q : s = 131070
  · rw [if_pos q, q]
  · rw [if_neg q, nI_add, Nat.mod_eq_of_lt (by omega)]
def FrQ (G G' : oz_G) : Prop := (∀ a, (a < 44 ∨ (44 < a ∧ a < 54) ∨ 57 < a) → G' a = G a) ∧ ∀ k, k ≠ 21 → G' 44 k = G 44 k
def t_X6_meet : oz_T := (P_X6_meet, e_X6, [], (true, 58, none, false, 0), (0, fun _ => 0))
def s_X6_meet : oz_S := oz_t2 44 fun x y N G R J Φ => ∃ hi sl n u L D t c d, R = rmR hi sl ∧ QR G n L D t ∧ L.length < 80000 ∧ (∀ z, z ∈ L → Gd n u z ∧ lo z = 0) ∧ Gd n u c ∧ lo c = 0 ∧ x = nI (mco n c) ∧ y = nI d ∧ (c ∈ L → Φ none N G R J) ∧ (c ∉ L → ∀ (G' : oz_G) (t' : Nat → Nat), FrQ G G' → QR G' n (L ++ [c]) (up D L.length d) t' → Φ none N G' R J)
theorem I_X6_meet : oz_Imp t_X6_meet 4 s_X6_meet := by
  intro Φ A a N G R J hN hS hC
  obtain ⟨x, y, rfl, hi, sl, n, u, L, D, t, c, d, rfl, hQ, hl, hL, hg, hlo, rfl, rfl, h1, h2⟩ := oz_t2_e hS
  have hn6 := hg.2.2
  have hX := mco_lt (c := c) hn6
  obtain ⟨q1, q2, q3, q4, q5, q6⟩ := id hQ
  have hend := mot_end (t := t) (x := mco n c) (nz_lt 131071 (by omega))
  have old : t (mot t (mco n c)) = mco n c + 1 → c ∈ L := fun z => by
    obtain ⟨i, a1, a2, a3⟩ := q4 _ (mot_lt t _) (by rw [z]; exact Nat.succ_ne_zero _)
    have hm := getD_m a1
    obtain ⟨b1, b2⟩ := hL _ hm
    have e : mco n c = mco n (L.getD i 0) := by omega
    rw [mco_inj hg b1 hlo b2 e]
    exact hm
  have new : t (mot t (mco n c)) = 0 → c ∉ L := fun z hc => by
    have := q5 c hc
    omega
  have a50 : t (mot t (mco n c)) = 0 → A 50 [some (.ref 44), some (.int (nI (mco n c))), some (.int (nI d)), some (.int (nI (mot t (mco n c))))] [] N G (rmR hi sl) J 0 := fun z => by
    have hf := h2 (new z) _ _ ⟨fun a ha => ?_, fun k hk => ?_⟩ (QR_new (c := c) (d := d) hQ hn6 hl z)
    · have hsl := mot_lt t (mco n c)
      rw [← nI_add (mco n c) 1, ← nI_add L.length 1] at hf
      have e21 : oz2 (oz2 (oz2 (oz2 G 54 (mot t (mco n c)) (nI (mco n c) + nI 1)) 57 L.length (nI (mot t (mco n c)))) 55 L.length (nI (mco n c))) 56 L.length (nI d) 44 21 = nI L.length := by
        rw [oz2_row (by decide), oz2_row (by decide), oz2_row (by decide), oz2_row (by decide)]; exact q1
      have hf : Φ none N (oz2 (oz2 (oz2 (oz2 (oz2 G 54 (mot t (mco n c)) (nI (mco n c) + nI 1)) 57 L.length (nI (mot t (mco n c)))) 55 L.length (nI (mco n c))) 56 L.length (nI d)) 44 21 (oz2 (oz2 (oz2 (oz2 G 54 (mot t (mco n c)) (nI (mco n c) + nI 1)) 57 L.length (nI (mot t (mco n c)))) 55 L.length (nI (mco n c))) 56 L.length (nI d) 44 21 + nI 1)) (rmR hi sl) J := by rw [e21]; exact hf
      exact hC.1 [] 90 50 _ _ _ _ _ _ _ ⟨mot t (mco n c), rfl, by show _ < 131072; omega, L.length, q1, by show _ < 80000; omega, L.length, q1, by show _ < 80000; omega, L.length, q1, by show _ < 80000; omega, hf⟩
    · rw [oz2_row (by omega), oz2_row (by omega), oz2_row (by omega), oz2_row (by omega), oz2_row (by omega)]
    · rw [oz2_ne hk, oz2_row (by decide), oz2_row (by decide), oz2_row (by decide), oz2_row (by decide)]
  have loop : ∀ f s, s < 131071 → mo t (mco n c + 1) f s = mot t (mco n c) → A 11 [some (.ref 44), some (.int (nI (mco n c))), some (.int (nI d)), some (.int (nI s))] [] N G (rmR hi sl) J 0 := by
    intro f
    induction f with
    | zero =>
      intro s hs e
      have e : s = mot t (mco n c) := e
      subst e
      obtain ⟨e54, b54⟩ := q3 _ hs
      refine hC.1 [50] 60 11 _ _ _ _ _ _ _ ⟨mot t (mco n c), rfl, by show _ < 131072; omega, fun q => ?_, fun q => ⟨mot t (mco n c), rfl, by show _ < 131072; omega, fun q2 => ?_, fun _ => ?_⟩⟩
      · have q : G 54 (mot t (mco n c)) = nI 0 := q
        rw [e54, nI_eq (by omega) (by decide)] at q
        exact a50 q
      · have q : ¬ G 54 (mot t (mco n c)) = nI 0 := q
        rw [e54, nI_eq (by omega) (by decide)] at q
        have q2 : ¬ G 54 (mot t (mco n c)) = nI (mco n c) + nI 1 := q2
        rw [e54, nI_add, nI_eq (by omega) (by omega)] at q2
        exact absurd hend (fun z => z.elim q q2)
      · have q : ¬ G 54 (mot t (mco n c)) = nI 0 := q
        rw [e54, nI_eq (by omega) (by decide)] at q
        exact h1 (old (hend.elim (fun z => absurd z q) id))
    | succ f ih =>
      intro s hs e
      obtain ⟨e54, b54⟩ := q3 s hs
      unfold mo at e
      have same : (t s = 0 ∨ t s = mco n c + 1) → s = mot t (mco n c) := fun z => by
        rw [if_pos z] at e
        exact e
      refine hC.1 [11, 50] 60 11 _ _ _ _ _ _ _ ⟨s, rfl, by show _ < 131072; omega, fun q => ?_, fun q => ⟨s, rfl, by show _ < 131072; omega, fun q2 => ?_, fun q2 => ?_⟩⟩
      · have q : G 54 s = nI 0 := q
        rw [e54, nI_eq (by omega) (by decide)] at q
        have es := same (Or.inl q)
        rw [es] at q ⊢
        exact a50 q
      · have q : ¬ G 54 s = nI 0 := q
        rw [e54, nI_eq (by omega) (by decide)] at q
        have q2 : ¬ G 54 s = nI (mco n c) + nI 1 := q2
        rw [e54, nI_add, nI_eq (by omega) (by omega)] at q2
        rw [if_neg (fun z => z.elim q q2)] at e
        have hih := ih ((s + 1) % 131071) (Nat.mod_lt _ (by decide)) e
        rw [← mx_ns hs] at hih
        refine ⟨fun q3 => ?_, fun q3 => ?_⟩
        · have q3 : ¬ nI s = nI 131070 := q3
          rw [nI_eq (by omega) (by decide)] at q3
          rw [if_neg q3] at hih
          exact hih
        · have q3 : ¬ ¬ nI s = nI 131070 := q3
          have q3 := Classical.not_not.mp q3
          rw [nI_eq (by omega) (by decide)] at q3
          rw [if_pos q3] at hih
          exact hih
      · have q : ¬ G 54 s = nI 0 := q
        have q2 : ¬ ¬ G 54 s = nI (mco n c) + nI 1 := q2
        have q2 := Classical.not_not.mp q2
        rw [e54, nI_add, nI_eq (by omega) (by omega)] at q2
        have es := same (Or.inr q2)
        rw [es] at q2
        exact h1 (old q2)
  have h0 := loop 131071 (mh (mco n c)) (mh_lt _) rfl
  rw [← mx_mh hX] at h0
  exact hC.1 [11] 40 0 _ _ _ _ _ _ _ ⟨show ¬ nI 131071 = nI 0 by decide, h0⟩
