/-! the model's search: the method -/
def FrS (G G' : oz_G) : Prop := (∀ a, (a < 44 ∨ (44 < a ∧ a < 53) ∨ 57 < a) → G' a = G a) ∧ ∀ k, (k < 13 ∨ (16 < k ∧ k < 21) ∨ 23 < k) → G' 44 k = G 44 k
/-- the table holds nothing but what is told of it -/
def SrI (G : oz_G) : Prop := ∃ m, m < 80000 ∧ G 44 21 = nI m ∧ (∀ i, i < m → ∃ s, s < 131071 ∧ G 57 i = nI s) ∧ ∀ s, s < 131071 → G 54 s = nI 0 ∨ ∃ i, i < m ∧ G 57 i = nI s
theorem QR_S {G : oz_G} {n : Nat} {L : List Nat} {D t : Nat → Nat} (h : QR G n L D t) (hl : L.length < 80000) : SrI G := by
  obtain ⟨q1, q2, q3, q4, q5, q6⟩ := h
  refine ⟨L.length, hl, q1, fun i hi => (q2 i hi).2.2, fun s hs => ?_⟩
  by_cases z : t s = 0
  · exact Or.inl (by rw [(q3 s hs).1, z])
  · obtain ⟨i, a1, a2, -⟩ := q4 s hs z
    exact Or.inr ⟨i, a1, a2⟩
theorem QR_fr {G G' : oz_G} {n : Nat} {L : List Nat} {D t : Nat → Nat} (h : QR G n L D t) (h1 : ∀ a, 54 ≤ a → a ≤ 57 → G' a = G a) (h2 : G' 44 21 = G 44 21) : QR G' n L D t := by
  obtain ⟨q1, q2, q3, q4, q5, q6⟩ := h
  refine ⟨by rw [h2]; exact q1, fun i hi => ?_, fun s hs => ?_, fun s hs h0 => ?_, q5, q6⟩
  · rw [h1 55 (by decide) (by decide), h1 56 (by decide) (by decide), h1 57 (by decide) (by decide)]; exact q2 i hi
  · rw [h1 54 (by decide) (by decide)]; exact q3 s hs
  · rw [h1 57 (by decide) (by decide)]; exact q4 s hs h0
theorem QR_nil {G : oz_G} {n : Nat} (h1 : G 44 21 = nI 0) (h2 : ∀ s, s < 131071 → G 54 s = nI 0) : QR G n [] (fun _ => 0) (fun _ => 0) :=
  ⟨h1, (fun i hi => absurd hi (Nat.not_lt_zero _)), fun s hs => ⟨h2 s hs, Nat.pow_pos (by decide)⟩, (fun s _ h => absurd rfl h), (fun x hx => by cases hx), by rw [nz_z]; exact Nat.le_refl _⟩
theorem BM_skip {n rl ex c0 B e d k : Nat} {L : List Nat} (h : BM n rl ex c0 L B e d k) (hs : ¬ (lg n ex (L.getD d 0) k = 1 ∧ lo (mvc n rl (L.getD d 0) k) = 1)) : BM n rl ex c0 L B e d (k + 1) := by
  refine ⟨h.1, fun i p hi hp hl ho => ?_, h.2.2⟩
  by_cases q : i = d ∧ p = k
  · obtain ⟨rfl, rfl⟩ := q
    exact absurd ⟨hl, ho⟩ hs
  · exact h.2.1 i p hi (by omega) hl ho
theorem BM_lose {n rl ex c0 B e d k : Nat} {L : List Nat} (h : BM n rl ex c0 L B e d k) (hb : dg (mvc n rl (L.getD d 0) k) n ≤ Bv n rl ex c0) : BM n rl ex c0 L (Nat.max B (dg (mvc n rl (L.getD d 0) k) n)) e d (k + 1) := by
  refine ⟨fun i h1 h2 => Nat.le_trans (h.1 i h1 h2) (Nat.le_max_left _ _), fun i p hi hp hl ho => ?_, Nat.max_le.mpr ⟨h.2.2, hb⟩⟩
  by_cases q : i = d ∧ p = k
  · obtain ⟨rfl, rfl⟩ := q
    exact Nat.le_max_right _ _
  · exact Nat.le_trans (h.2.1 i p hi (by omega) hl ho) (Nat.le_max_left _ _)
theorem BM_own {n rl ex c0 B d : Nat} {L : List Nat} (h : BM n rl ex c0 L B d d 0) (hb : dg (L.getD d 0) n ≤ Bv n rl ex c0) : BM n rl ex c0 L (Nat.max B (dg (L.getD d 0) n)) (d + 1) d 0 := by
  refine ⟨fun i h1 h2 => ?_, fun i p hi hp hl ho => Nat.le_trans (h.2.1 i p hi hp hl ho) (Nat.le_max_left _ _), Nat.max_le.mpr ⟨h.2.2, hb⟩⟩
  by_cases q : i = d
  · rw [q]; exact Nat.le_max_right _ _
  · exact Nat.le_trans (h.1 i (by omega) h2) (Nat.le_max_left _ _)
theorem BM_next {n rl ex c0 B d : Nat} {L : List Nat} (h : BM n rl ex c0 L B (d + 1) d n) : BM n rl ex c0 L B (d + 1) (d + 1) 0 := ⟨h.1, fun i p hi hp => h.2.1 i p hi (by omega), h.2.2⟩
/-- the fewest moves so far, and none fewer -/
def FO (n : Nat) (L : List Nat) (D : Nat → Nat) (F : Option Nat) (e : Nat) : Prop := FM n L D F e ∧ ∀ m, F = some m → ∀ i, i < e → sm (L.getD i 0) n = 0 → m ≤ D i
theorem FO_app {n c v e : Nat} {L : List Nat} {D : Nat → Nat} {F : Option Nat} (h : FO n L D F e) (he : e ≤ L.length) : FO n (L ++ [c]) (up D L.length v) F e := by
  refine ⟨⟨fun hF i hi => ?_, fun m hm => ?_⟩, fun m hm i hi hs => ?_⟩
  · rw [getD_l (by omega)]; exact h.1.1 hF i hi
  · obtain ⟨i, a1, a2, a3⟩ := h.1.2 m hm
    exact ⟨i, a1, by rw [up_n (by omega)]; exact a2, by rw [getD_l (by omega)]; exact a3⟩
  · rw [getD_l (by omega)] at hs
    rw [up_n (by omega)]
    exact h.2 m hm i hi hs
theorem FO_skip {n d : Nat} {L : List Nat} {D : Nat → Nat} {F : Option Nat} (h : FO n L D F d) (hs : sm (L.getD d 0) n ≠ 0) : FO n L D F (d + 1) := by
  refine ⟨⟨fun hF i hi => ?_, fun m hm => ?_⟩, fun m hm i hi hs2 => ?_⟩
  · by_cases q : i = d
    · rw [q]; exact hs
    · exact h.1.1 hF i (by omega)
  · obtain ⟨i, a1, a2⟩ := h.1.2 m hm
    exact ⟨i, by omega, a2⟩
  · by_cases q : i = d
    · rw [q] at hs2; exact absurd hs2 hs
    · exact h.2 m hm i (by omega) hs2
theorem FO_first {n d : Nat} {L : List Nat} {D : Nat → Nat} (h : FO n L D none d) (hs : sm (L.getD d 0) n = 0) : FO n L D (some (D d)) (d + 1) := by
  refine ⟨⟨(fun hF => by cases hF), fun m hm => ⟨d, Nat.lt_succ_self _, by cases hm; rfl, hs⟩⟩, fun m hm i hi hs2 => ?_⟩
  cases hm
  by_cases q : i = d
  · rw [q]; exact Nat.le_refl _
  · exact absurd hs2 (h.1.1 rfl i (by omega))
theorem FO_more {n d m : Nat} {L : List Nat} {D : Nat → Nat} (h : FO n L D (some m) d) (hD : ∀ i, i < d → D i ≤ D d) : FO n L D (some m) (d + 1) := by
  obtain ⟨i0, a1, a2, a3⟩ := h.1.2 m rfl
  refine ⟨⟨(fun hF => by cases hF), fun m' hm => ⟨i0, by omega, by cases hm; exact a2, a3⟩⟩, fun m' hm i hi hs2 => ?_⟩
  cases hm
  by_cases q : i = d
  · rw [q, ← a2]; exact hD i0 a1
  · exact h.2 m rfl i (by omega) hs2
def SI (G G2 : oz_G) (n rl ex u c : Nat) (L : List Nat) (D t : Nat → Nat) (B : Nat) (F : Option Nat) (e d k : Nat) : Prop := FrS G G2 ∧ QR G2 n L D t ∧ BI n rl ex u c L D d k ∧ BM n rl ex c L B e d k ∧ FO n L D F e ∧ G2 44 22 = nI B ∧ G2 44 23 = fI F
theorem FrS_pl {G G2 G3 : oz_G} (h : FrS G G2) (h1 : ∀ a, a ≠ 44 → a ≠ 53 → G3 a = G2 a) (h2 : ∀ k, (k < 13 ∨ 16 < k) → G3 44 k = G2 44 k) : FrS G G3 := ⟨fun a ha => by rw [h1 a (by omega) (by omega)]; exact h.1 a ha, fun k hk => by rw [h2 k (by omega)]; exact h.2 k hk⟩
theorem FrS_i {G G2 : oz_G} {k : Nat} {v : Int32} (h : FrS G G2) (hk : 21 ≤ k ∧ k ≤ 23) : FrS G (oz2 G2 44 k v) := ⟨fun a ha => by rw [oz2_row (by omega)]; exact h.1 a ha, fun j hj => by rw [oz2_ne (by omega)]; exact h.2 j hj⟩
theorem SI_pl {G G2 G3 : oz_G} {n rl ex u c : Nat} {L : List Nat} {D t : Nat → Nat} {B : Nat} {F : Option Nat} {e d k : Nat} (h : SI G G2 n rl ex u c L D t B F e d k) (h1 : ∀ a, a ≠ 44 → a ≠ 53 → G3 a = G2 a) (h2 : ∀ k, (k < 13 ∨ 16 < k) → G3 44 k = G2 44 k) : SI G G3 n rl ex u c L D t B F e d k :=
  ⟨FrS_pl h.1 h1 h2, QR_fr h.2.1 (fun a a1 a2 => h1 a (by omega) (by omega)) (h2 21 (by decide)), h.2.2.1, h.2.2.2.1, h.2.2.2.2.1, by rw [h2 22 (by decide)]; exact h.2.2.2.2.2.1, by rw [h2 23 (by decide)]; exact h.2.2.2.2.2.2⟩
