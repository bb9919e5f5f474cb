/-! the state told by both: a round, what is kept, the history, the slots, the pad -/
abbrev Kp : Type := Nat × Nat × Nat
/-- pits, RELAY, EXACT, LIVES, position, kept moves, the newest first -/
abbrev St : Type := Nat × Nat × Nat × Nat × Nat × List Kp
def sN (S : St) : Nat := S.1
def sRl (S : St) : Nat := S.2.1
def sEx (S : St) : Nat := S.2.2.1
def sLv (S : St) : Nat := S.2.2.2.1
def sC (S : St) : Nat := S.2.2.2.2.1
def sK (S : St) : List Kp := S.2.2.2.2.2
def KOk (n u : Nat) : Nat → List Kp → Prop
  | _, [] => True
  | c, k :: K => Gd n u k.2.2 ∧ lo k.2.2 = 0 ∧ pot n c < pot n k.2.2 ∧ k.1 < n ∧ k.2.1 ≤ 1000 ∧ KOk n u k.2.2 K
def StOk (S : St) : Prop := 2 ≤ sN S ∧ sN S ≤ 6 ∧ sRl S ≤ 1 ∧ sEx S ≤ 1 ∧ sLv S ≤ 1 ∧ ∃ u, 0 < u ∧ Gd (sN S) u (sC S) ∧ KOk (sN S) u (sC S) (sK S)
theorem KOk_len {n u : Nat} : ∀ (c : Nat) (K : List Kp), Gd n u c → KOk n u c K → K.length + pot n c ≤ 16
  | c, [], hg, _ => by have := pot16 hg; simpa using this
  | c, k :: K, hg, h => by
    have := KOk_len k.2.2 K h.1 h.2.2.2.2.2
    have h2 := h.2.2.1
    rw [List.length_cons]
    omega
def KpR (G : oz_G) (b : Nat) : List Kp → Prop
  | [] => True
  | k :: K => G (b + 2) K.length = nI k.1 ∧ G (b + 3) K.length = nI k.2.1 ∧ G (b + 4) K.length = nI k.2.2 ∧ KpR G b K
def StR (G : oz_G) (b : Nat) (S : St) : Prop := G b 1 = nI (sN S) ∧ G b 2 = nI (sC S) ∧ G b 3 = nI (sK S).length ∧ G b 4 = nI (sK S).length ∧ G (b + 1) 0 = nI (sRl S) ∧ G (b + 1) 1 = nI (sEx S) ∧ G (b + 1) 2 = nI (sLv S) ∧ KpR G b (sK S)
theorem KpR_fr {G G' : oz_G} {b b' : Nat} {m : Nat} (h2 : ∀ j, j < m → G' (b' + 2) j = G (b + 2) j) (h3 : ∀ j, j < m → G' (b' + 3) j = G (b + 3) j) (h4 : ∀ j, j < m → G' (b' + 4) j = G (b + 4) j) : ∀ K : List Kp, K.length ≤ m → KpR G b K → KpR G' b' K
  | [], _, _ => trivial
  | k :: K, hm, h => by
    rw [List.length_cons] at hm
    exact ⟨by rw [h2 _ (by omega)]; exact h.1, by rw [h3 _ (by omega)]; exact h.2.1, by rw [h4 _ (by omega)]; exact h.2.2.1, KpR_fr h2 h3 h4 K (by omega) h.2.2.2⟩
theorem StR_fr {G G' : oz_G} {b : Nat} {S : St} (h : ∀ i, b ≤ i → i ≤ b + 4 → G' i = G i) (hS : StR G b S) : StR G' b S := by
  obtain ⟨h1, h2, h3, h4, h5, h6, h7, h8⟩ := hS
  unfold StR
  rw [h b (by omega) (by omega), h (b + 1) (by omega) (by omega)]
  exact ⟨h1, h2, h3, h4, h5, h6, h7, KpR_fr (m := (sK S).length) (fun j _ => by rw [h (b + 2) (by omega) (by omega)]) (fun j _ => by rw [h (b + 3) (by omega) (by omega)]) (fun j _ => by rw [h (b + 4) (by omega) (by omega)]) _ (Nat.le_refl _) h8⟩
theorem cpS_o {G : oz_G} {b o i : Nat} (h : i < b ∨ b + 4 < i) : cpS G b o i = G i := by
  unfold cpS
  rw [if_neg (by omega), if_neg (by omega), if_neg (by omega), if_neg (by omega), if_neg (by omega)]
theorem cpS_R {G : oz_G} {b o : Nat} {S : St} (hl : (sK S).length ≤ 20) (hS : StR G o S) : StR (cpS G b o) b S := by
  obtain ⟨h1, h2, h3, h4, h5, h6, h7, h8⟩ := hS
  have e0 : ∀ f, 1 ≤ f → f ≤ 4 → cpS G b o b f = G o f := fun f a1 a2 => by
    unfold cpS; rw [if_pos rfl]; exact if_pos ⟨a1, a2⟩
  have e1 : ∀ j, j < 3 → cpS G b o (b + 1) j = G (o + 1) j := fun j a => by
    unfold cpS; rw [if_neg (by omega), if_pos rfl]; exact if_pos a
  have e2 : ∀ j, j < 20 → cpS G b o (b + 2) j = G (o + 2) j := fun j a => by
    unfold cpS; rw [if_neg (by omega), if_neg (by omega), if_pos rfl]; exact if_pos a
  have e3 : ∀ j, j < 20 → cpS G b o (b + 3) j = G (o + 3) j := fun j a => by
    unfold cpS; rw [if_neg (by omega), if_neg (by omega), if_neg (by omega), if_pos rfl]; exact if_pos a
  have e4 : ∀ j, j < 20 → cpS G b o (b + 4) j = G (o + 4) j := fun j a => by
    unfold cpS; rw [if_neg (by omega), if_neg (by omega), if_neg (by omega), if_neg (by omega), if_pos rfl]; exact if_pos a
  unfold StR
  rw [e0 1 (by decide) (by decide), e0 2 (by decide) (by decide), e0 3 (by decide) (by decide), e0 4 (by decide) (by decide), e1 0 (by decide), e1 1 (by decide), e1 2 (by decide)]
  exact ⟨h1, h2, h3, h4, h5, h6, h7, KpR_fr e2 e3 e4 _ hl h8⟩
theorem StR_Ev {G : oz_G} {S : St} (h : StR G 1 S) (ho : StOk S) : Ev G (sN S) (sRl S) (sEx S) := ⟨h.1, h.2.2.2.2.1, h.2.2.2.2.2.1, ho.1, ho.2.1, ho.2.2.1, ho.2.2.2.1⟩
def HsR (G : oz_G) (hi : Nat → Nat) : List St → Prop
  | [] => True
  | S :: H => StR G (hi H.length) S ∧ HsR G hi H
def SlR (G : oz_G) (sl : Nat → Option Nat) (s : Option St) (k : Nat) : Prop := match s with
  | none => sl k = none
  | some S => ∃ b, sl k = some b ∧ StR G b S
def hiOk (hi : Nat → Nat) : Prop := (∀ k, k < 6 → 14 ≤ hi k ∧ hi k ≤ 39 ∧ hi k % 5 = 4) ∧ ∀ j k, j < 6 → k < 6 → j ≠ k → hi j ≠ hi k
def slOk (N : Nat) (sl : Nat → Option Nat) : Prop := (∀ k b, k < 2 → sl k = some b → 44 ≤ b ∧ b % 5 = 5 ∧ b + 4 < N) ∧ (∀ b, sl 0 = some b → sl 1 ≠ some b) ∧ 44 ≤ N ∧ 44 ≤ N
/-- now, the history (the newest first), two slots, the pad's characters and how many -/
abbrev Wd : Type := St × List St × Option St × Option St × (Nat → Nat) × Nat
def wS (W : Wd) : St := W.1
def wH (W : Wd) : List St := W.2.1
def w0 (W : Wd) : Option St := W.2.2.1
def w1 (W : Wd) : Option St := W.2.2.2.1
def wP (W : Wd) : Nat → Nat := W.2.2.2.2.1
def wL (W : Wd) : Nat := W.2.2.2.2.2
def wOk (W : Wd) : Prop := StOk (wS W) ∧ (∀ S, S ∈ wH W → StOk S) ∧ (∀ S, w0 W = some S → StOk S) ∧ (∀ S, w1 W = some S → StOk S) ∧ (wH W).length ≤ 6
def CR (N : Nat) (G : oz_G) (R : oz_R) (W : Wd) : Prop := ∃ hi sl, R = rmR hi sl ∧ hiOk hi ∧ slOk N sl ∧ StR G 1 (wS W) ∧ G 0 2 = nI (wH W).length ∧ HsR G hi (wH W) ∧ SlR G sl (w0 W) 0 ∧ SlR G sl (w1 W) 1 ∧ PdC G (wP W) (wL W)
/-- what the class leaves as it is -/
def FrC (G G' : oz_G) : Prop := ∀ i, 44 ≤ i → i < i + 1 → G' i = G i
theorem FrC_t {G G' G'' : oz_G} (h : FrC G G') (h' : FrC G' G'') : FrC G G'' := fun i h1 h2 => by rw [h' i h1 h2, h i h1 h2]
theorem HsR_fr {G G' : oz_G} {hi : Nat → Nat} (hh : hiOk hi) (h : ∀ i, 14 ≤ i → i ≤ 43 → G' i = G i) : ∀ H : List St, H.length ≤ 6 → HsR G hi H → HsR G' hi H
  | [], _, _ => trivial
  | S :: H, hl, hR => by
    rw [List.length_cons] at hl
    have := hh.1 H.length (by omega)
    exact ⟨StR_fr (fun i h1 h2 => h i (by omega) (by omega)) hR.1, HsR_fr hh h H (by omega) hR.2⟩
theorem SlR_fr {G G' : oz_G} {N : Nat} {sl : Nat → Option Nat} (hs : slOk N sl) (h : ∀ i, 44 ≤ i → i < N → G' i = G i) {s : Option St} {k : Nat} (hk : k < 2) (hR : SlR G sl s k) : SlR G' sl s k := by
  cases s with
  | none => exact hR
  | some S =>
    obtain ⟨b, h1, h2⟩ := hR
    obtain ⟨a1, a2, a3⟩ := hs.1 k b hk h1
    exact ⟨b, h1, StR_fr (fun i b1 b2 => h i (by omega) (by omega)) h2⟩
theorem PdC_fr {G G' : oz_G} {w : Nat → Nat} {len : Nat} (h1 : G' 8 1 = G 8 1) (h2 : G' 9 = G 9) (h : PdC G w len) : PdC G' w len := by
  unfold PdC at h ⊢
  rw [h1, h2]
  exact h
/-- the history with one more -/
def psh (S : St) (H : List St) : List St := if H.length = 6 then S :: H.dropLast else S :: H
theorem psh_len {S : St} {H : List St} (h : H.length ≤ 6) : (psh S H).length ≤ 6 ∧ 0 < (psh S H).length := by
  unfold psh
  split
  · rw [List.length_cons, List.length_dropLast]; omega
  · rw [List.length_cons]; omega
theorem psh_mem {S T : St} {H : List St} (h : T ∈ psh S H) : T = S ∨ T ∈ H := by
  unfold psh at h
  split at h
  · rcases List.mem_cons.mp h with q | q
    · exact Or.inl q
    · exact Or.inr (List.dropLast_subset H q)
  · exact List.mem_cons.mp h
theorem HsR_dl {G : oz_G} {hi hi' : Nat → Nat} : ∀ H : List St, (∀ k, k + 1 < H.length → hi' k = hi (k + 1)) → HsR G hi H → HsR G hi' H.dropLast
  | [], _, _ => trivial
  | [_], _, _ => trivial
  | S :: T :: H, h, hR => by
    have hd : (S :: T :: H).dropLast = S :: (T :: H).dropLast := rfl
    rw [hd]
    refine ⟨?_, HsR_dl (T :: H) (fun k hk => h k (by rw [List.length_cons]; omega)) hR.2⟩
    rw [List.length_dropLast, List.length_cons, Nat.add_sub_cancel, h H.length (by rw [List.length_cons, List.length_cons]; omega)]
    have := hR.1
    rw [List.length_cons] at this
    exact this
theorem Stc_h {hi : Nat → Nat} {sl : Nat → Option Nat} {N b : Nat} (hN : 44 ≤ N) (h : 14 ≤ b ∧ b ≤ 39 ∧ b % 5 = 4) : Stc (rmR hi sl) N b := by
  have hb : b = 14 ∨ b = 19 ∨ b = 24 ∨ b = 29 ∨ b = 34 ∨ b = 39 := by omega
  rcases hb with rfl | rfl | rfl | rfl | rfl | rfl <;> exact ⟨⟨rfl, rfl, rfl, rfl, rfl⟩, ⟨rfl, rfl, rfl, rfl⟩, ⟨rfl, rfl, rfl, rfl⟩, by omega⟩
theorem Stc_1 {hi : Nat → Nat} {sl : Nat → Option Nat} {N : Nat} (hN : 44 ≤ N) : Stc (rmR hi sl) N 1 := ⟨⟨rfl, rfl, rfl, rfl, rfl⟩, ⟨rfl, rfl, rfl, rfl⟩, ⟨rfl, rfl, rfl, rfl⟩, by omega⟩
theorem oz_nth_out {α : Type} : ∀ (l : List α) (n : Nat) (d : α), l.length ≤ n → oz_nth l n d = d
  | [], _, _, _ => rfl
  | _ :: l, 0, _, h => absurd h (by simp)
  | _ :: l, n + 1, d, h => oz_nth_out l n d (by simpa using h)
theorem beq_ne {a b : Nat} (h : a ≠ b) : Nat.beq a b = false := by
  cases h' : Nat.beq a b
  · rfl
  · exact absurd (Nat.eq_of_beq_eq_true h') h
theorem rmR_h {hi : Nat → Nat} {sl : Nat → Option Nat} {j y : Nat} : oz2 (rmR hi sl) 6 j (some y) = rmR (up hi j y) sl := by
  funext a k
  by_cases ha : a = 6
  · subst ha
    by_cases hk : k = j
    · subst hk
      rw [oz2_self]
      show some y = some (up hi k y k)
      rw [up_s]
    · rw [oz2_ne hk]
      show some (hi k) = some (up hi j y k)
      rw [up_n hk]
  · rw [oz2_row ha]
    unfold rmR
    rw [beq_ne ha]
def ups (sl : Nat → Option Nat) (r : Nat) (v : Option Nat) : Nat → Option Nat := fun s => if s = r then v else sl s
theorem rmR_s {hi : Nat → Nat} {sl : Nat → Option Nat} {j y : Nat} : oz2 (rmR hi sl) 7 j (some y) = rmR hi (ups sl j (some y)) := by
  funext a k
  by_cases ha : a = 7
  · subst ha
    by_cases hk : k = j
    · subst hk
      rw [oz2_self]
      show some y = ups sl k (some y) k
      unfold ups; rw [if_pos rfl]
    · rw [oz2_ne hk]
      show sl k = ups sl j (some y) k
      unfold ups; rw [if_neg hk]
  · rw [oz2_row ha]
    unfold rmR
    rw [beq_ne ha]
def nt (x : Int32) : Nat := x.toInt.toNat
def ip (n : Nat) (x : Int32) : Bool := decide (¬ x < 0) && decide (¬ nI n ≤ x)
theorem nt_nI {j : Nat} (h : j < 2 ^ 31) : nt (nI j) = j := by
  unfold nt
  have e : (nI j).toInt = (j : Int) := by
    show (BitVec.ofNat 32 j).toInt = (j : Int)
    rw [BitVec.toInt_eq_toNat_of_lt]
    · rw [BitVec.toNat_ofNat, Nat.mod_eq_of_lt (by omega)]
    · rw [BitVec.toNat_ofNat, Nat.mod_eq_of_lt (by omega)]
      omega
  rw [e]
  rfl
theorem ip_t {n : Nat} {x : Int32} (h : ip n x = true) (hn : n < 2 ^ 31) : x = nI (nt x) ∧ nt x < n := by
  unfold ip at h
  simp only [Bool.and_eq_true, decide_eq_true_eq] at h
  obtain ⟨j, hj, hx, -, -, -⟩ := pk_mu h.1 h.2 hn
  rw [hx, nt_nI (by omega)]
  exact ⟨rfl, hj⟩
