/-! OWN LAYER, part 1: an abstract run of the bytecode over plain tables of numbers -/
abbrev oz_G : Type := Nat → Nat → Int32
abbrev oz_R : Type := Nat → Nat → Option Nat
abbrev oz_J : Type := Nat → Nat → Int64
/-- what goes on behind an answer: the answer, how many cells there are, ints, references, longs -/
abbrev oz_C : Type := Option Value → Nat → oz_G → oz_R → oz_J → Prop
/-- a method's word: arguments, the heap, what is to hold behind -/
abbrev oz_S : Type := List Value → Nat → oz_G → oz_R → oz_J → oz_C → Prop
abbrev oz_L : Type := List (Option Value)
def oz2 {α : Type} (G : Nat → Nat → α) (i k : Nat) (v : α) : Nat → Nat → α := fun a => if a = i then (fun b => if b = k then v else G i b) else G a
def ozz {α : Type} (G : Nat → Nat → α) (i : Nat) (v : α) : Nat → Nat → α := fun a => if a = i then (fun _ => v) else G a
theorem oz2_row {α : Type} {G : Nat → Nat → α} {i k a : Nat} {v : α} (h : a ≠ i) : oz2 G i k v a = G a := by simp [oz2, h]
theorem oz2_self {α : Type} {G : Nat → Nat → α} {i k : Nat} {v : α} : oz2 G i k v i k = v := by simp [oz2]
theorem oz2_ne {α : Type} {G : Nat → Nat → α} {i k b : Nat} {v : α} (h : b ≠ k) : oz2 G i k v i b = G i b := by simp [oz2, h]
theorem ozz_row {α : Type} {G : Nat → Nat → α} {i a : Nat} {v : α} (h : a ≠ i) : ozz G i v a = G a := by simp [ozz, h]
theorem ozz_self {α : Type} {G : Nat → Nat → α} {i b : Nat} {v : α} : ozz G i v i b = v := by simp [ozz]
def oz_nth {α : Type} : List α → Nat → α → α
  | [], _, d => d
  | a :: _, 0, _ => a
  | _ :: l, n + 1, d => oz_nth l n d
/-- the kind of the n-th cell of a run: 0 to 5 objects as in vwCl, 6 ints, 7 longs, 8 booleans, 9 references to states -/
def oz_kL : List Nat := [4, 3, 6, 6, 6, 6, 9, 9, 0, 6, 2, 1, 7, 2, 3, 6, 6, 6, 6, 3, 6, 6, 6, 6, 3, 6, 6, 6, 6, 3, 6, 6, 6, 6, 3, 6, 6, 6, 6, 3, 6, 6, 6, 6]
def oz_k (i : Nat) : Nat := oz_nth oz_kL i 6
def oz_lL : List Nat := [0, 0, 3, 20, 20, 20, 6, 2, 0, 40, 0, 0, 4096, 0, 0, 3, 20, 20, 20, 0, 3, 20, 20, 20, 0, 3, 20, 20, 20, 0, 3, 20, 20, 20, 0, 3, 20, 20, 20, 0, 3, 20, 20, 20]
def oz_l (i : Nat) : Nat := oz_nth oz_lL i 7
/-- the fields of a kind: 0 int, 1 reference (final), 2 boolean -/
def oz_fL : List (List Nat) := [[1, 0, 0, 0, 0], [1, 1, 0], [0, 0, 0, 0, 2], [1, 0, 0, 0, 0, 1, 1, 1], [1, 1, 0, 1, 1, 1, 1]]
def oz_t (c k : Nat) : Nat := oz_nth (oz_nth oz_fL c []) k 0
def oz_n (c : Nat) : Nat := oz_nth [5, 3, 5, 8, 7] c 0
/-- the fixed things of a run: kinds and slots, classes of arrays, the first address, the script's address -/
abbrev oz_K : Type := va_G × (ClassId × ClassId × ClassId × ClassId) × Nat × Nat
def oz_v (κ : oz_K) : Value → Value
  | .ref i => .ref (κ.2.2.1 + i)
  | .retAddr _ => .ref κ.2.2.2
  | v => v
def oz_F (κ : oz_K) (G : oz_G) (R : oz_R) (c i : Nat) : List Value := (List.range (oz_n c)).map (fun k => if oz_t c k = 1 then va_rf ((R i k).map (fun j => κ.2.2.1 + j)) else .int (G i k))
def oz_E (κ : oz_K) (G : oz_G) (R : oz_R) (J : oz_J) (i : Nat) : va_E :=
  if oz_k i = 6 then .inl (κ.2.1.1, oz_l i, .inl (G i)) else if oz_k i = 7 then .inl (κ.2.1.2.1, oz_l i, .inr (.inl (J i))) else if oz_k i = 8 then .inl (κ.2.1.2.2.1, oz_l i, .inl (G i))
  else if oz_k i = 9 then .inl (κ.2.1.2.2.2, oz_l i, .inr (.inr (.inr (.inr (fun j => (R i j).map (fun y => κ.2.2.1 + y)))))) else .inr (oz_k i, oz_F κ G R (oz_k i) i)
def oz_W (κ : oz_K) (N : Nat) (G : oz_G) (R : oz_R) (J : oz_J) : va_W := (List.range N).map (fun i => (κ.2.2.1 + i, oz_E κ G R J i))
def oz_H (κ : oz_K) (N : Nat) (G : oz_G) (R : oz_R) (J : oz_J) (H : Heap) : Prop := H.size = κ.2.2.1 + N ∧ va_P κ.1 vwCl (oz_W κ N G R J) H
def oz_ty (κ : oz_K) : List (ClassId × FieldType) := [(κ.2.1.1, .int), (κ.2.1.2.1, .long), (κ.2.1.2.2.1, .int), (κ.2.1.2.2.2, .object RX4)]
/-- what the tables say all along -/
def oz_B (κ : oz_K) (U : State) : Prop := va_K κ.1 vwCl (oz_ty κ) U ∧ va_AO RX4 U ∧ va_Nw (.methodLinkNest RX5 29 yX0_init RX5) U ∧ va_Nw (.methodLinkNest RX5 36 yX3_init RX5) U ∧ va_Nw (.methodLinkNest RX5 43 yX2_init RX5) U ∧ va_Nw (.methodLinkNest RX2 17 yX3_init RX5) U
theorem oz_k6 {κ : oz_K} {G : oz_G} {R : oz_R} {J : oz_J} {i : Nat} (h : oz_k i = 6) : oz_E κ G R J i = .inl (κ.2.1.1, oz_l i, .inl (G i)) := by simp [oz_E, h]
theorem oz_k7 {κ : oz_K} {G : oz_G} {R : oz_R} {J : oz_J} {i : Nat} (h : oz_k i = 7) : oz_E κ G R J i = .inl (κ.2.1.2.1, oz_l i, .inr (.inl (J i))) := by simp [oz_E, h]
theorem oz_k8 {κ : oz_K} {G : oz_G} {R : oz_R} {J : oz_J} {i : Nat} (h : oz_k i = 8) : oz_E κ G R J i = .inl (κ.2.1.2.2.1, oz_l i, .inl (G i)) := by simp [oz_E, h]
theorem oz_k9 {κ : oz_K} {G : oz_G} {R : oz_R} {J : oz_J} {i : Nat} (h : oz_k i = 9) : oz_E κ G R J i = .inl (κ.2.1.2.2.2, oz_l i, .inr (.inr (.inr (.inr (fun j => (R i j).map (fun y => κ.2.2.1 + y)))))) := by simp [oz_E, h]
theorem oz_ko {κ : oz_K} {G : oz_G} {R : oz_R} {J : oz_J} {i c : Nat} (h : oz_k i = c) (hc : c < 6) : oz_E κ G R J i = .inr (c, oz_F κ G R c i) := by
  subst h
  have h6 : ¬ oz_k i = 6 := by omega
  have h7 : ¬ oz_k i = 7 := by omega
  have h8 : ¬ oz_k i = 8 := by omega
  have h9 : ¬ oz_k i = 9 := by omega
  simp [oz_E, h6, h7, h8, h9]
theorem oz_E_row {κ : oz_K} {G G' : oz_G} {R R' : oz_R} {J J' : oz_J} {i : Nat} (hG : G i = G' i) (hR : R i = R' i) (hJ : J i = J' i) : oz_E κ G R J i = oz_E κ G' R' J' i := by
  simp only [oz_E, oz_F, hG, hR, hJ]
theorem oz_W_get {κ : oz_K} {N : Nat} {G : oz_G} {R : oz_R} {J : oz_J} {i : Nat} (h : i < N) : (oz_W κ N G R J)[i]? = some (κ.2.2.1 + i, oz_E κ G R J i) := by
  simp [oz_W, h]
theorem oz_W_at {κ : oz_K} {N : Nat} {G : oz_G} {R : oz_R} {J : oz_J} {k : Nat} {q : Nat × va_E} (h : (oz_W κ N G R J)[k]? = some q) : k < N ∧ q = (κ.2.2.1 + k, oz_E κ G R J k) := by
  have hk : k < N := by
    have := (List.getElem?_eq_some_iff.mp h).1
    simpa [oz_W] using this
  exact ⟨hk, Option.some.inj (h.symm.trans (oz_W_get hk))⟩
theorem oz_W_D {κ : oz_K} {N : Nat} {G : oz_G} {R : oz_R} {J : oz_J} : va_D (fun q : Nat => κ.2.2.1 ≤ q) (oz_W κ N G R J) := by
  refine ⟨fun i j p q hi hj e => ?_, fun k q hk => ?_⟩
  · obtain ⟨-, rfl⟩ := oz_W_at hi
    obtain ⟨-, rfl⟩ := oz_W_at hj
    have e' : κ.2.2.1 + i = κ.2.2.1 + j := e
    omega
  · obtain ⟨-, rfl⟩ := oz_W_at hk
    exact Nat.le_add_right _ _
theorem oz_W_set {κ : oz_K} {N : Nat} {G G' : oz_G} {R R' : oz_R} {J J' : oz_J} {i : Nat} (he : ∀ j, j ≠ i → oz_E κ G R J j = oz_E κ G' R' J' j) : (oz_W κ N G R J).set i (κ.2.2.1 + i, oz_E κ G' R' J' i) = oz_W κ N G' R' J' := by
  apply List.ext_getElem?
  intro k
  by_cases hk : k < N
  · rw [oz_W_get hk]
    by_cases hi : k = i
    · subst hi
      rw [List.getElem?_set_self (by simpa [oz_W] using hk)]
    · rw [List.getElem?_set_ne (Ne.symm hi), oz_W_get hk, he k hi]
  · rw [List.getElem?_eq_none (by simpa [oz_W] using hk), List.getElem?_eq_none (by simpa [oz_W] using hk)]
theorem oz_W_push {κ : oz_K} {N : Nat} {G G' : oz_G} {R R' : oz_R} {J J' : oz_J} (he : ∀ j, j < N → oz_E κ G R J j = oz_E κ G' R' J' j) : oz_W κ N G R J ++ [(κ.2.2.1 + N, oz_E κ G' R' J' N)] = oz_W κ (N + 1) G' R' J' := by
  simp only [oz_W, List.range_succ, List.map_append, List.map_cons, List.map_nil]
  congr 1
  apply List.map_congr_left
  intro j hj
  rw [he j (List.mem_range.mp hj)]
theorem oz_H_set {κ : oz_K} {N : Nat} {G G' : oz_G} {R R' : oz_R} {J J' : oz_J} {H H1 : Heap} {i : Nat} (h : oz_H κ N G R J H) (hi : i < N) (z : H1.size = H.size) (oq : ∀ q : Nat, q ≠ κ.2.2.1 + i → H1[q]? = H[q]?) (ha : va_at κ.1 vwCl (κ.2.2.1 + i, oz_E κ G' R' J' i) H1) (he : ∀ j, j ≠ i → oz_E κ G R J j = oz_E κ G' R' J' j) : oz_H κ N G' R' J' H1 := by
  refine ⟨z.trans h.1, ?_⟩
  have h2 := h.2.set oz_W_D (oz_W_get hi) ha oq
  rwa [oz_W_set he] at h2
theorem oz_H_push {κ : oz_K} {N : Nat} {G G' : oz_G} {R R' : oz_R} {J J' : oz_J} {H H1 : Heap} (h : oz_H κ N G R J H) (z : H1.size = H.size + 1) (oq : ∀ q : Nat, q < H.size → H1[q]? = H[q]?) (ha : va_at κ.1 vwCl (κ.2.2.1 + N, oz_E κ G' R' J' N) H1) (he : ∀ j, j < N → oz_E κ G R J j = oz_E κ G' R' J' j) : oz_H κ (N + 1) G' R' J' H1 := by
  refine ⟨by rw [z, h.1]; omega, ?_⟩
  rw [← oz_W_push he]
  refine (h.2.kept (fun k q hk => ?_)).app (fun k q hk => ?_)
  · obtain ⟨h1, rfl⟩ := oz_W_at hk
    exact oq _ (by rw [h.1]; exact Nat.add_lt_add_left h1 _)
  · have hz : k < 1 := (List.getElem?_eq_some_iff.mp hk).1
    rw [show k = 0 by omega] at hk
    cases hk
    exact ha
theorem oz_S_push {A : Nat → Prop} {H0 H H1 : Heap} {locs : List Loc} (hS : va_S A H0 H locs) (z : H1.size = H.size + 1) (oq : ∀ q : Nat, q < H.size → H1[q]? = H[q]?) : va_S A H0 H1 locs :=
  ⟨Nat.le_trans hS.1 (by omega), fun x h1 h2 => (oq x (Nat.lt_of_lt_of_le h1 hS.1)).trans (hS.2.1 x h1 h2), hS.2.2⟩
theorem oz_F_len {κ : oz_K} {G : oz_G} {R : oz_R} {c i : Nat} : (oz_F κ G R c i).length = oz_n c := by simp [oz_F]
theorem oz_F_get {κ : oz_K} {G : oz_G} {R : oz_R} {c i k : Nat} (hk : k < oz_n c) : (oz_F κ G R c i)[k]? = some (if oz_t c k = 1 then va_rf ((R i k).map (fun j => κ.2.2.1 + j)) else .int (G i k)) := by
  simp [oz_F, hk]
theorem oz_F_setI {κ : oz_K} {G : oz_G} {R : oz_R} {c i k : Nat} {x : Int32} (hk : k < oz_n c) (ht : oz_t c k ≠ 1) : (oz_F κ G R c i).set k (.int x) = oz_F κ (oz2 G i k x) R c i := by
  apply List.ext_getElem?
  intro j
  by_cases hj : j < oz_n c
  · rw [oz_F_get hj]
    by_cases e : j = k
    · subst e
      rw [List.getElem?_set_self (by rw [oz_F_len]; exact hj), if_neg ht, oz2_self]
    · rw [List.getElem?_set_ne (Ne.symm e), oz_F_get hj, oz2_ne e]
  · rw [List.getElem?_eq_none (by rw [List.length_set, oz_F_len]; omega), List.getElem?_eq_none (by rw [oz_F_len]; omega)]
theorem oz_F_setR {κ : oz_K} {G : oz_G} {R : oz_R} {c i k y : Nat} (hk : k < oz_n c) (ht : oz_t c k = 1) : (oz_F κ G R c i).set k (.ref (κ.2.2.1 + y)) = oz_F κ G (oz2 R i k (some y)) c i := by
  apply List.ext_getElem?
  intro j
  by_cases hj : j < oz_n c
  · rw [oz_F_get hj]
    by_cases e : j = k
    · subst e
      rw [List.getElem?_set_self (by rw [oz_F_len]; exact hj), if_pos ht, oz2_self]
      rfl
    · rw [List.getElem?_set_ne (Ne.symm e), oz_F_get hj, oz2_ne e]
  · rw [List.getElem?_eq_none (by rw [List.length_set, oz_F_len]; omega), List.getElem?_eq_none (by rw [oz_F_len]; omega)]
/-! the abstract run -/
def oz_find {α : Type} (n : Nat) : List (Nat × α) → Option α
  | [] => none
  | (a, b) :: l => match Nat.beq a n with
    | true => some b
    | false => oz_find n l
def oz_sk : oz_P → Nat → oz_P
  | [], _ => []
  | q :: l, t => match Nat.beq q.1 t with
    | true => q :: l
    | false => oz_sk l t
def oz_has (n : Nat) : List Nat → Bool
  | [] => false
  | a :: l => match Nat.beq a n with
    | true => true
    | false => oz_has n l
def oz_ld : oz_L → Nat → Option Value
  | [], _ => none
  | v :: _, 0 => v
  | _ :: l, n + 1 => oz_ld l n
def oz_clr1 (L : oz_L) (j : Nat) (v : Option Value) : oz_L := match v with
  | some v => (match Nat.beq v.category 2 with
    | true => L.set j none
    | false => L)
  | none => L
def oz_clr (L : oz_L) : Nat → oz_L
  | 0 => L
  | j + 1 => oz_clr1 L j (oz_ld L j)
def oz_st (L : oz_L) (i : Nat) (v : Value) : oz_L := (oz_clr L i).set i (some v)
def oz_c : Int → Int32
  | .ofNat n => nI n
  | .negSucc n => Int32.ofInt (Int.negSucc n)
def oz_pI (st : List Value) (k : Int32 → List Value → Prop) : Prop := match st with
  | .int a :: r => k a r
  | _ => False
def oz_pJ (st : List Value) (k : Int64 → List Value → Prop) : Prop := match st with
  | .long a :: r => k a r
  | _ => False
def oz_pR (st : List Value) (k : Nat → List Value → Prop) : Prop := match st with
  | .ref a :: r => k a r
  | _ => False
def oz_aI (v : Option Value) (k : Int32 → Prop) : Prop := match v with
  | some (.int a) => k a
  | _ => False
def oz_aJ (v : Option Value) (k : Int64 → Prop) : Prop := match v with
  | some (.long a) => k a
  | _ => False
def oz_aR (v : Option Value) (k : Value → Prop) : Prop := match v with
  | some (.ref a) => k (.ref a)
  | some (.retAddr a) => k (.retAddr a)
  | some .null => k .null
  | _ => False
def oz_o {α : Type} (o : Option α) (k : α → Prop) : Prop := match o with
  | some a => k a
  | none => False
def oz_m3 (n : Nat) (k0 k1 k2 : Prop) : Prop := match n with
  | 0 => k0
  | 1 => k1
  | 2 => k2
  | _ => False
def oz_bb (b : Bool) (k1 k0 : Prop) : Prop := match b with
  | true => k1
  | false => k0
def oz_z (n : Nat) (k0 : Prop) (k1 : Nat → Prop) : Prop := match n with
  | 0 => k0
  | q + 1 => k1 q
def oz_nil (st : List Value) (k : Prop) : Prop := match st with
  | [] => k
  | _ => False
def oz_pV (st : List Value) (k : Value → List Value → Prop) : Prop := match st with
  | v :: r => k v r
  | _ => False
def oz_if (b : Bool) (k : Prop) : Prop := match b with
  | true => k
  | false => False
def oz_cond (c : Jvm.ClassFile.Cond) (x y : Int32) : Prop := match c with
  | .eq => x = y
  | .ne => ¬ x = y
  | .lt => x < y
  | .ge => y ≤ x
  | .gt => y < x
  | .le => x ≤ y
def oz_br (c k1 k2 : Prop) : Prop := (c → k1) ∧ (¬ c → k2)
def oz_sw (x : Int32) (k : Nat → Prop) (d : Prop) : Int → List Int → Prop
  | _, [] => d
  | lo, o :: os => (x.toInt = lo → k o.toNat) ∧ (¬ x.toInt = lo → oz_sw x k d (lo + 1) os)
def oz_bz (x : Int32) : Prop := x = 0 ∨ x = 1
def oz_cat (st : List Value) : Nat := (st.map fun v => v.category).sum
/-- a method's fixed things: its instructions, its class's tables, its calls (index, kind, arguments, room, word), whether cells are known by number, how many there are at least, of which kind it is a constructor, whether it answers a boolean, its room, the script -/
abbrev oz_T : Type := oz_P × (List (Nat × Nat × Nat) × List (Nat × Int32) × List (Nat × Int64) × List (Nat × Nat)) × List (Nat × Nat × Nat × Nat × oz_S) × (Bool × Nat × Option Nat × Bool × Nat) × (Nat × (Nat → Int32))
abbrev oz_X : Type := oz_P → oz_L → List Value → Nat → oz_G → oz_R → oz_J → Nat → Prop
def oz_ck (τ : oz_T) (i c N : Nat) (k : Prop) : Prop := match τ.2.2.2.1.1 with
  | true => oz_if (Nat.beq (oz_k i) c && Nat.blt i τ.2.2.2.1.2.1) k
  | false => (oz_k i = c ∧ i < N) ∧ k
def oz_call (τ : oz_T) (nx : oz_X) (tl : oz_P) (kd idx : Nat) (L : oz_L) (st : List Value) (N : Nat) (G : oz_G) (R : oz_R) (J : oz_J) (k : Nat) : Prop := oz_o (oz_find idx τ.2.2.1) fun q =>
  oz_if (Nat.beq q.1 kd && (Nat.ble q.2.1 st.length && Nat.ble (oz_cat (st.drop q.2.1)) 8)) (oz_z q.2.2.1
    (q.2.2.2 (st.take q.2.1).reverse N G R J (fun r N' G' R' J' => nx tl L (r.toList ++ st.drop q.2.1) N' G' R' J' k))
    (fun n => k + (n + 1) ≤ τ.2.2.2.1.2.2.2.2 ∧ q.2.2.2 (st.take q.2.1).reverse N G R J (fun r N' G' R' J' => nx tl L (r.toList ++ st.drop q.2.1) N' G' R' J' (k + (n + 1)))))
def oz_step (τ : oz_T) (Φ : oz_C) (nx : oz_X) (tl : oz_P) (ins : Instr) (L : oz_L) (st : List Value) (N : Nat) (G : oz_G) (R : oz_R) (J : oz_J) (k : Nat) : Prop := match ins with
  | .aload_n i => oz_aR (oz_ld L i) fun v => nx tl L (v :: st) N G R J k
  | .aload i => oz_aR (oz_ld L i) fun v => nx tl L (v :: st) N G R J k
  | .iload_n i => oz_aI (oz_ld L i) fun a => nx tl L (.int a :: st) N G R J k
  | .iload i => oz_aI (oz_ld L i) fun a => nx tl L (.int a :: st) N G R J k
  | .lload_n i => oz_aJ (oz_ld L i) fun a => nx tl L (.long a :: st) N G R J k
  | .istore_n i => oz_pI st fun a r => oz_if (Nat.blt i L.length) (nx tl (oz_st L i (.int a)) r N G R J k)
  | .istore i => oz_pI st fun a r => oz_if (Nat.blt i L.length) (nx tl (oz_st L i (.int a)) r N G R J k)
  | .lstore_n i => oz_pJ st fun a r => oz_if (Nat.blt (i + 1) L.length) (nx tl ((oz_st L i (.long a)).set (i + 1) none) r N G R J k)
  | .astore_n i => oz_pR st fun a r => oz_if (Nat.blt i L.length) (nx tl (oz_st L i (.ref a)) r N G R J k)
  | .astore i => oz_pR st fun a r => oz_if (Nat.blt i L.length) (nx tl (oz_st L i (.ref a)) r N G R J k)
  | .iinc i n => oz_aI (oz_ld L i) fun a => oz_if (Nat.blt i L.length) (nx tl (oz_st L i (.int (a + oz_c n))) st N G R J k)
  | .iconst n => nx tl L (.int (oz_c n) :: st) N G R J k
  | .bipush n => nx tl L (.int (oz_c n) :: st) N G R J k
  | .sipush n => nx tl L (.int (oz_c n) :: st) N G R J k
  | .lconst n => nx tl L (.long (lN n) :: st) N G R J k
  | .ldc i => oz_o (oz_find i τ.2.1.2.1) fun v => nx tl L (.int v :: st) N G R J k
  | .ldc2_w i => oz_o (oz_find i τ.2.1.2.2.1) fun v => nx tl L (.long v :: st) N G R J k
  | .iadd => oz_pI st fun b r => oz_pI r fun a r => nx tl L (.int (a + b) :: r) N G R J k
  | .isub => oz_pI st fun b r => oz_pI r fun a r => nx tl L (.int (a - b) :: r) N G R J k
  | .imul => oz_pI st fun b r => oz_pI r fun a r => nx tl L (.int (a * b) :: r) N G R J k
  | .iand => oz_pI st fun b r => oz_pI r fun a r => nx tl L (.int (a &&& b) :: r) N G R J k
  | .ior => oz_pI st fun b r => oz_pI r fun a r => nx tl L (.int (a ||| b) :: r) N G R J k
  | .irem => oz_pI st fun b r => oz_pI r fun a r => ¬ b = 0 ∧ nx tl L (.int (a - a / b * b) :: r) N G R J k
  | .idiv => oz_pI st fun b r => oz_pI r fun a r => ¬ b = 0 ∧ nx tl L (.int (a / b) :: r) N G R J k
  | .ishl => oz_pI st fun b r => oz_pI r fun a r => nx tl L (.int (a <<< (b &&& 31)) :: r) N G R J k
  | .ishr => oz_pI st fun b r => oz_pI r fun a r => nx tl L (.int (a >>> (b &&& 31)) :: r) N G R J k
  | .iushr => oz_pI st fun b r => oz_pI r fun a r => nx tl L (.int ((a.toUInt32 >>> (b.toUInt32 &&& Int32.toUInt32 31)).toInt32) :: r) N G R J k
  | .i2l => oz_pI st fun a r => nx tl L (.long a.toInt64 :: r) N G R J k
  | .l2i => oz_pJ st fun a r => nx tl L (.int a.toInt32 :: r) N G R J k
  | .land => oz_pJ st fun b r => oz_pJ r fun a r => nx tl L (.long (a &&& b) :: r) N G R J k
  | .lor => oz_pJ st fun b r => oz_pJ r fun a r => nx tl L (.long (a ||| b) :: r) N G R J k
  | .lshl => oz_pI st fun b r => oz_pJ r fun a r => nx tl L (.long (a <<< (b.toInt64 &&& 63)) :: r) N G R J k
  | .lushr => oz_pI st fun b r => oz_pJ r fun a r => nx tl L (.long ((a.toUInt64 >>> (b.toInt64.toUInt64 &&& Int64.toUInt64 63)).toInt64) :: r) N G R J k
  | .lcmp => oz_pJ st fun b r => oz_pJ r fun a r => nx tl L (.int (lg_cmp a b) :: r) N G R J k
  | .dup => oz_pV st fun v r => oz_if (Nat.beq v.category 1) (nx tl L (v :: v :: r) N G R J k)
  | .dup2 => oz_pV st fun v r => oz_pV r fun w r => oz_if (Nat.beq v.category 1 && Nat.beq w.category 1) (nx tl L (v :: w :: v :: w :: r) N G R J k)
  | .pop => oz_pV st fun v r => oz_if (Nat.beq v.category 1) (nx tl L r N G R J k)
  | .ifCond c t => oz_pI st fun a r => oz_br (oz_cond c a 0) (nx (oz_sk τ.1 t.toNat) L r N G R J k) (nx tl L r N G R J k)
  | .if_icmp c t => oz_pI st fun b r => oz_pI r fun a r => oz_br (oz_cond c a b) (nx (oz_sk τ.1 t.toNat) L r N G R J k) (nx tl L r N G R J k)
  | .goto t => nx (oz_sk τ.1 t.toNat) L st N G R J k
  | .ifnonnull t => match st with
    | .ref _ :: r => nx (oz_sk τ.1 t.toNat) L r N G R J k
    | .null :: r => nx tl L r N G R J k
    | _ => False
  | .tableswitch d lo _ offs => oz_pI st fun a r => oz_sw a (fun t => nx (oz_sk τ.1 t) L r N G R J k) (nx (oz_sk τ.1 d.toNat) L r N G R J k) lo offs.toList
  | .getfield x => oz_pR st fun i r => oz_o (oz_find x τ.2.1.1) fun q => oz_ck τ i q.1 N (oz_m3 (oz_t q.1 q.2) (nx tl L (.int (G i q.2) :: r) N G R J k) (nx tl L (va_rf (R i q.2) :: r) N G R J k) (nx tl L (.int (G i q.2) :: r) N G R J k))
  | .putfield x => oz_o (oz_find x τ.2.1.1) fun q => oz_m3 (oz_t q.1 q.2)
    (oz_pI st fun v r => oz_pR r fun i r => oz_ck τ i q.1 N (nx tl L r N (oz2 G i q.2 v) R J k))
    (oz_pR st fun y r => oz_pR r fun i r => oz_o τ.2.2.2.1.2.2.1 fun c' => oz_if (Nat.beq c' q.1) (oz_ck τ i q.1 N (nx tl L r N G (oz2 R i q.2 (some y)) J k)))
    (oz_pI st fun v r => oz_pR r fun i r => oz_ck τ i q.1 N (oz_bz v ∧ nx tl L r N (oz2 G i q.2 v) R J k))
  | .iaload => oz_pI st fun x r => match r with
    | .ref i :: r => oz_ck τ i 6 N (∃ j, x = nI j ∧ j < oz_l i ∧ nx tl L (.int (G i j) :: r) N G R J k)
    | .retAddr _ :: r => ∃ j, x = nI j ∧ j + 1 < τ.2.2.2.2.1 ∧ nx tl L (.int (τ.2.2.2.2.2 j) :: r) N G R J k
    | _ => False
  | .laload => oz_pI st fun x r => oz_pR r fun i r => oz_ck τ i 7 N (∃ j, x = nI j ∧ j < oz_l i ∧ nx tl L (.long (J i j) :: r) N G R J k)
  | .aaload => oz_pI st fun x r => oz_pR r fun i r => oz_ck τ i 9 N (∃ j, x = nI j ∧ j < oz_l i ∧ nx tl L (va_rf (R i j) :: r) N G R J k)
  | .iastore => oz_pI st fun v r => oz_pI r fun x r => oz_pR r fun i r => oz_ck τ i 6 N (∃ j, x = nI j ∧ j < oz_l i ∧ nx tl L r N (oz2 G i j v) R J k)
  | .lastore => oz_pJ st fun v r => oz_pI r fun x r => oz_pR r fun i r => oz_ck τ i 7 N (∃ j, x = nI j ∧ j < oz_l i ∧ nx tl L r N G R (oz2 J i j v) k)
  | .aastore => oz_pR st fun y r => oz_pI r fun x r => oz_pR r fun i r => oz_ck τ i 9 N ((oz_k y = 3 ∧ y < N) ∧ ∃ j, x = nI j ∧ j < oz_l i ∧ nx tl L r N G (oz2 R i j (some y)) J k)
  | .arraylength => match st with
    | .retAddr _ :: r => oz_z τ.2.2.2.2.1 False (fun n => nx tl L (.int (nI n) :: r) N G R J k)
    | _ => False
  | .new x => oz_o (oz_find x τ.2.1.2.2.2) fun c => (oz_k N = c ∧ k + (oz_n c + 1) ≤ τ.2.2.2.1.2.2.2.2) ∧ nx tl L (.ref N :: st) (N + 1) (ozz G N 0) (ozz R N none) J (k + (oz_n c + 1))
  | .newarray t => oz_pI st fun x r => match t with
    | .int => ∃ n, x = nI n ∧ (oz_k N = 6 ∧ oz_l N = n ∧ k + (n + 1) ≤ τ.2.2.2.1.2.2.2.2) ∧ nx tl L (.ref N :: r) (N + 1) (ozz G N 0) R J (k + (n + 1))
    | .long => ∃ n, x = nI n ∧ (oz_k N = 7 ∧ oz_l N = n ∧ k + (n + 1) ≤ τ.2.2.2.1.2.2.2.2) ∧ nx tl L (.ref N :: r) (N + 1) G R (ozz J N 0) (k + (n + 1))
    | _ => False
  | .anewarray x => oz_pI st fun v r => oz_o (oz_find x τ.2.1.2.2.2) fun c => oz_if (Nat.beq c 3) (∃ n, v = nI n ∧ (oz_k N = 9 ∧ oz_l N = n ∧ k + (n + 1) ≤ τ.2.2.2.1.2.2.2.2) ∧ nx tl L (.ref N :: r) (N + 1) G (ozz R N none) J (k + (n + 1)))
  | .invokestatic x => oz_call τ nx tl 0 x L st N G R J k
  | .invokevirtual x => oz_call τ nx tl 1 x L st N G R J k
  | .invokespecial x => oz_call τ nx tl 2 x L st N G R J k
  | .ireturn => oz_pI st fun v r => oz_nil r (oz_bb τ.2.2.2.1.2.2.2.1 (oz_bz v ∧ Φ (some (.int v)) N G R J) (Φ (some (.int v)) N G R J))
  | .return_ => oz_nil st (Φ none N G R J)
  | _ => False
abbrev oz_Y : Type := Nat → oz_L → List Value → Nat → oz_G → oz_R → oz_J → Nat → Prop
def oz_cut (cuts : List Nat) (is : oz_P) (a : Nat → Prop) (b : Prop) : Prop := match is with
  | [] => False
  | q :: _ => match oz_has q.1 cuts with
    | true => a q.1
    | false => b
def oz_wp (τ : oz_T) (Φ : oz_C) (A : oz_Y) (cuts : List Nat) : Nat → oz_P → oz_L → List Value → Nat → oz_G → oz_R → oz_J → Nat → Prop
  | 0, is, L, st, N, G, R, J, k => match is with
    | [] => False
    | q :: _ => A q.1 L st N G R J k
  | n + 1, is, L, st, N, G, R, J, k => match is with
    | [] => False
    | q :: tl => oz_step τ Φ (fun is' L' st' N' G' R' J' k' => oz_cut cuts is' (fun pc' => A pc' L' st' N' G' R' J' k') (oz_wp τ Φ A cuts n is' L' st' N' G' R' J' k')) tl q.2 L st N G R J k
/-- the same cells, as far as there are any -/
def oz_w (i : Nat) : Nat := if oz_k i < 6 then oz_n (oz_k i) else oz_l i
def oz_eqv (N : Nat) (G : oz_G) (R : oz_R) (J : oz_J) (G' : oz_G) (R' : oz_R) (J' : oz_J) : Prop := ∀ i, i < N → ∀ k, k < oz_w i → G i k = G' i k ∧ R i k = R' i k ∧ J i k = J' i k
/-- closed under runs, under forgetting locals, and under other tables with the same cells -/
def oz_Cl (τ : oz_T) (Φ : oz_C) (A : oz_Y) : Prop := (∀ (cuts : List Nat) (n pc : Nat) (L : oz_L) (st : List Value) (N : Nat) (G : oz_G) (R : oz_R) (J : oz_J) (k : Nat), oz_wp τ Φ A cuts n (oz_sk τ.1 pc) L st N G R J k → A pc L st N G R J k) ∧ (∀ (pc : Nat) (L L' : oz_L) (st : List Value) (N : Nat) (G : oz_G) (R : oz_R) (J : oz_J) (k : Nat), L'.length = L.length → (∀ i v, oz_ld L' i = some v → oz_ld L i = some v) → A pc L' st N G R J k → A pc L st N G R J k) ∧ (∀ (pc : Nat) (L : oz_L) (st : List Value) (N : Nat) (G : oz_G) (R : oz_R) (J : oz_J) (G' : oz_G) (R' : oz_R) (J' : oz_J) (k : Nat), oz_eqv N G R J G' R' J' → A pc L st N G' R' J' k → A pc L st N G R J k)
def oz_lyt : List Value → oz_L
  | [] => []
  | .long x :: l => some (.long x) :: none :: oz_lyt l
  | v :: l => some v :: oz_lyt l
def oz_fill : oz_L → Nat → oz_L
  | l, 0 => l
  | [], n + 1 => none :: oz_fill [] n
  | v :: l, n + 1 => v :: oz_fill l n
/-- the method does what its word says -/
def oz_Imp (τ : oz_T) (nL : Nat) (S : oz_S) : Prop := ∀ (Φ : oz_C) (A : oz_Y) (args : List Value) (N : Nat) (G : oz_G) (R : oz_R) (J : oz_J), τ.2.2.2.1.2.1 ≤ N → S args N G R J Φ → oz_Cl τ Φ A → A 0 (oz_fill (oz_lyt args) nL) [] N G R J 0
