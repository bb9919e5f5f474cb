/-! OWN LAYER, part 4: each instruction of the abstract run is the machine's -/
theorem oz_l_le (i : Nat) : oz_l i ≤ 131072 := by
  have key : ∀ (l : List Nat) (n d : Nat), (∀ x ∈ l, x ≤ 131072) → d ≤ 131072 → oz_nth l n d ≤ 131072 := by
    intro l
    induction l with
    | nil => intro n d _ hd; exact hd
    | cons a l ih =>
      intro n d h hd
      cases n with
      | zero => exact h a List.mem_cons_self
      | succ n => exact ih n d (fun x hx => h x (List.mem_cons_of_mem _ hx)) hd
  unfold oz_l
  exact key _ _ _ (by decide) (by decide)
theorem oz_v_rf (κ : oz_K) (o : Option Nat) : oz_v κ (va_rf o) = va_rf (o.map (fun y => κ.2.2.1 + y)) := by cases o <;> rfl
theorem oz_sw_in {x : Int32} {K : Nat → Prop} {D : Prop} : ∀ (os : List Int) (lo : Int), oz_sw x K D lo os → ∀ (j : Nat) (o : Int), os[j]? = some o → x.toInt = lo + j → K o.toNat
  | [], _, _, j, o, h, _ => by simp at h
  | a :: os, lo, hs, 0, o, h, e => by
    simp at h
    subst h
    exact hs.1 (by simpa using e)
  | a :: os, lo, hs, j + 1, o, h, e => by
    rw [List.getElem?_cons_succ] at h
    have hne : ¬ x.toInt = lo := by rw [e]; omega
    exact oz_sw_in os (lo + 1) (hs.2 hne) j o h (by rw [e]; push_cast; omega)
theorem oz_sw_out {x : Int32} {K : Nat → Prop} {D : Prop} : ∀ (os : List Int) (lo : Int), oz_sw x K D lo os → (∀ j : Nat, j < os.length → ¬ x.toInt = lo + j) → D
  | [], _, hs, _ => hs
  | a :: os, lo, hs, hj => by
    have h0 : ¬ x.toInt = lo := by simpa using hj 0 (by simp)
    refine oz_sw_out os (lo + 1) (hs.2 h0) (fun j h e => hj (j + 1) (by simp; omega) (by rw [e]; push_cast; omega))
def oz_inv (kd idx : Nat) : Instr := match kd with
  | 0 => .invokestatic idx
  | 1 => .invokevirtual idx
  | _ => .invokespecial idx
def oz_CO (κ : oz_K) (N0 nL K0 : Nat) (p : Program) (l : Launch) (e : Env) (Rm : Room) (s : State) (m : MethodId) (args : Array Value) (below : List Frame) (meth : Method) (c : Code) (Q : State → Prop) (cc : ByteArray) (q : Nat × Nat × Nat × Nat × oz_S) : Prop :=
  ∀ (Φ1 : oz_C) (pc : Nat) (L : oz_L) (a rest : List Value) (N : Nat) (G : oz_G) (R : oz_R) (J : oz_J) (k : Nat), N0 ≤ N → a.length = q.2.2.1 → decode cc pc = .ok (oz_inv q.2.1 q.1, 3) → oz_cat rest ≤ 8 → k + q.2.2.2.1 ≤ K0 → q.2.2.2.2 a N G R J Φ1 →
  (∀ (r : Option Value) (N' : Nat) (G' : oz_G) (R' : oz_R) (J' : oz_J), Φ1 r N' G' R' J' → oz_A κ N0 nL K0 p l e Rm s m args below meth c Q (pc + 3) L (r.toList ++ rest) N' G' R' J' (k + q.2.2.2.1)) → oz_A κ N0 nL K0 p l e Rm s m args below meth c Q pc L (a.reverse ++ rest) N G R J k
section OZS
variable {p : Program} {l : Launch} {e : Env} {Rm : Room} {s : State} {m : MethodId} {args : Array Value} {below : List Frame} {meth : Method} {c : Code} {Q : State → Prop}
variable {κ : oz_K} {N0 nL K0 : Nat} {cc : ByteArray} {own : String} {pc pc' : Nat} {L : oz_L} {st st' : List Value} {N : Nat} {G : oz_G} {R : oz_R} {J : oz_J} {k : Nat}
theorem oz_go (h : oz_A κ N0 nL K0 p l e Rm s m args below meth c Q pc' L st' N G R J k) (hw : ∀ (H : Heap) (locs : List Loc) (cells slots : Nat) (ls : Array Slot), oz_H κ N G R J H → oz_XL κ nL L ls → va_S (fun q : Nat => κ.2.2.1 ≤ q) s.heap H locs → W p l e Rm s m args below meth c H locs cells slots Q (F0 m pc' ls (st'.map (oz_v κ))) → W p l e Rm s m args below meth c H locs cells slots Q (F0 m pc ls (st.map (oz_v κ)))) : oz_A κ N0 nL K0 p l e Rm s m args below meth c Q pc L st N G R J k :=
  fun h1 h2 H lo ce sl ls h3 h4 h5 h6 h7 => hw H lo ce sl ls h5 h7 h6 (h h1 h2 H lo ce sl ls h3 h4 h5 h6 h7)
theorem oz_goS {i : Nat} {v : Value} (h : oz_A κ N0 nL K0 p l e Rm s m args below meth c Q pc' (oz_st L i v) st' N G R J k) (hi : i < L.length) (hw : ∀ (H : Heap) (locs : List Loc) (cells slots : Nat) (ls : Array Slot), oz_XL κ nL L ls → i < nL → (∀ ls' : Array Slot, lv_has ls' nL ((i, oz_v κ v) :: (oz_lv κ 0 L).filter (fun q => !(q.1 == i) && !(q.1 + 1 == i && q.2.category == 2))) → W p l e Rm s m args below meth c H locs cells slots Q (F0 m pc' ls' (st'.map (oz_v κ)))) → W p l e Rm s m args below meth c H locs cells slots Q (F0 m pc ls (st.map (oz_v κ)))) : oz_A κ N0 nL K0 p l e Rm s m args below meth c Q pc L st N G R J k :=
  fun h1 h2 H lo ce sl ls h3 h4 h5 h6 h7 => hw H lo ce sl ls h7 (by rw [← h7.2.2.1]; exact hi) (fun ls' h' => h h1 h2 H lo ce sl ls' h3 h4 h5 h6 (oz_XL_st h7 hi h'))
theorem oz_callok {τ : oz_T} {nx : oz_X} {tl : oz_P} {kd x : Nat} (hnb : τ.2.2.2.1.2.1 ≤ N0) (hK : τ.2.2.2.1.2.2.2.2 = K0)
    (hcall : ∀ q ∈ τ.2.2.1, oz_CO κ N0 nL K0 p l e Rm s m args below meth c Q cc q) (hdec : decode cc pc = .ok (oz_inv kd x, 3))
    (hn : ∀ (L : oz_L) (st : List Value) (N : Nat) (G : oz_G) (R : oz_R) (J : oz_J) (k : Nat), nx tl L st N G R J k → oz_A κ N0 nL K0 p l e Rm s m args below meth c Q (pc + 3) L st N G R J k)
    (h : oz_call τ nx tl kd x L st N G R J k) : oz_A κ N0 nL K0 p l e Rm s m args below meth c Q pc L st N G R J k := by
  obtain ⟨⟨kd', n, cost, S⟩, hfind, g1⟩ := oz_o_e h
  clear h
  have hco := hcall _ (oz_find_in _ _ _ hfind)
  obtain ⟨hb3, g2⟩ := oz_if_e g1
  clear g1
  simp only [Bool.and_eq_true] at hb3
  obtain ⟨e1, e2, e3⟩ := hb3
  have e1 : kd' = kd := Nat.eq_of_beq_eq_true e1
  have e2 : n ≤ st.length := Nat.le_of_ble_eq_true e2
  have e3 : oz_cat (st.drop n) ≤ 8 := Nat.le_of_ble_eq_true e3
  subst e1
  have hst : ((st.take n).reverse).reverse ++ st.drop n = st := by rw [List.reverse_reverse, List.take_append_drop]
  have hlen : ((st.take n).reverse).length = n := by rw [List.length_reverse, List.length_take]; omega
  refine fun h1 h2 => ?_
  rcases oz_z_e g2 with ⟨hz, h⟩ | ⟨q, hz, hroom, h⟩
  · have hz : cost = 0 := hz
    subst hz
    have := hco _ pc L (st.take n).reverse (st.drop n) N G R J k h1 hlen hdec e3 h2 h (fun r N' G' R' J' hr => hn _ _ _ _ _ _ _ hr)
    rw [hst] at this
    exact this h1 h2
  · have hz : cost = q + 1 := hz
    subst hz
    rw [hK] at hroom
    have := hco _ pc L (st.take n).reverse (st.drop n) N G R J k h1 hlen hdec e3 hroom h (fun r N' G' R' J' hr => hn _ _ _ _ _ _ _ hr)
    rw [hst] at this
    exact this h1 h2
set_option maxHeartbeats 4000000 in
theorem oz_step_ok {τ : oz_T} {Φ : oz_C} {nx : oz_X} {tl : oz_P} {ins : Instr}
    (hx : p.tables.exec = Jvm.exec) (hb : c.code = cc) (hown : s.vm.findClass own = some m.cls) (hts : ∀ w ∈ oz_gt, w.before args s = true) (hB : oz_B κ s)
    (hfl : ∀ q ∈ τ.2.1.1, oz_fok own q) (hkt : ∀ q ∈ τ.2.1.2.1, Jvm.Cond.constant own q.1 q.2 ∈ oz_gt) (hlt : ∀ q ∈ τ.2.1.2.2.1, Jvm.Cond.constantLong own q.1 q.2 ∈ oz_gt) (hcn : ∀ q ∈ τ.2.1.2.2.2, oz_cok own q)
    (hnb : τ.2.2.2.1.2.1 ≤ N0) (hK : τ.2.2.2.1.2.2.2.2 = K0) (hKc : K0 ≤ Rm.cells) (hKs : K0 ≤ Rm.slots) (hini : ∀ c', τ.2.2.2.1.2.2.1 = some c' → meth.name = "<init>" ∧ ∃ r, vwCl[c']? = some r ∧ r.1 = own)
    (hscr : ∀ n, τ.2.2.2.2.1 = n + 1 → va_X κ.2.2.2 n τ.2.2.2.2.2 s s.heap ∧ κ.2.2.2 < s.heap.size ∧ ¬ κ.2.2.1 ≤ κ.2.2.2 ∧ n < 2 ^ 31)
    (hcall : ∀ q ∈ τ.2.2.1, oz_CO κ N0 nL K0 p l e Rm s m args below meth c Q cc q)
    (hretI : ∀ (pc : Nat) (L : oz_L) (v : Int32) (N : Nat) (G : oz_G) (R : oz_R) (J : oz_J) (k : Nat), (pc, Instr.ireturn) ∈ τ.1 → decode cc pc = .ok (.ireturn, 1) → (τ.2.2.2.1.2.2.2.1 = true → oz_bz v) → Φ (some (.int v)) N G R J → oz_A κ N0 nL K0 p l e Rm s m args below meth c Q pc L [.int v] N G R J k)
    (hretV : ∀ (pc : Nat) (L : oz_L) (N : Nat) (G : oz_G) (R : oz_R) (J : oz_J) (k : Nat), (pc, Instr.return_) ∈ τ.1 → decode cc pc = .ok (.return_, 1) → Φ none N G R J → oz_A κ N0 nL K0 p l e Rm s m args below meth c Q pc L [] N G R J k)
    (hmem : (pc, ins) ∈ τ.1) (hdec : decode cc pc = .ok (oz_rel pc ins, oz_len pc ins)) (hcst : oz_cst ins = true)
    (hn : ∀ (L : oz_L) (st : List Value) (N : Nat) (G : oz_G) (R : oz_R) (J : oz_J) (k : Nat), nx tl L st N G R J k → oz_A κ N0 nL K0 p l e Rm s m args below meth c Q (pc + oz_len pc ins) L st N G R J k)
    (hj : ∀ (t : Nat) (L : oz_L) (st : List Value) (N : Nat) (G : oz_G) (R : oz_R) (J : oz_J) (k : Nat), nx (oz_sk τ.1 t) L st N G R J k → oz_A κ N0 nL K0 p l e Rm s m args below meth c Q t L st N G R J k)
    (h : oz_step τ Φ nx tl ins L st N G R J k) : oz_A κ N0 nL K0 p l e Rm s m args below meth c Q pc L st N G R J k := by
  have htg : ∀ t : Int, 0 ≤ t → (pc : Int) + (t - pc) = (t.toNat : Int) := fun t ht => by omega
  have hce : ∀ {a n : Nat}, a ≤ k → k + (n + 1) ≤ K0 → a + 1 ≤ Rm.cells ∧ a + n ≤ Rm.slots := fun h1 h2 => by omega
  cases ins
  case aload_n i =>
    obtain ⟨w, hw, hty, h⟩ := oz_aR_e (v := oz_ld L i) (k := fun v => nx tl L (v :: st) N G R J k) h
    rcases hty with ⟨a, rfl⟩ | ⟨a, rfl⟩ | rfl
    · exact oz_go (hn _ _ _ _ _ _ _ h) (fun _ _ _ _ _ _ hX _ kk => lv_aload_n hx hb hdec rfl (hX.2.2.2 _ _ hw) kk)
    · exact oz_go (hn _ _ _ _ _ _ _ h) (fun _ _ _ _ _ _ hX _ kk => lv_aload_n hx hb hdec rfl (hX.2.2.2 _ _ hw) kk)
    · exact oz_go (hn _ _ _ _ _ _ _ h) (fun _ _ _ _ _ _ hX _ kk => lv_aload_nN hx hb hdec rfl (hX.2.2.2 _ _ hw) kk)
  case aload i =>
    obtain ⟨w, hw, hty, h⟩ := oz_aR_e (v := oz_ld L i) (k := fun v => nx tl L (v :: st) N G R J k) h
    rcases hty with ⟨a, rfl⟩ | ⟨a, rfl⟩ | rfl
    · exact oz_go (hn _ _ _ _ _ _ _ h) (fun _ _ _ _ _ _ hX _ kk => lv_aload hx hb hdec (hX.2.2.2 _ _ hw) kk)
    · exact oz_go (hn _ _ _ _ _ _ _ h) (fun _ _ _ _ _ _ hX _ kk => lv_aload hx hb hdec (hX.2.2.2 _ _ hw) kk)
    · exact oz_go (hn _ _ _ _ _ _ _ h) (fun _ _ _ _ _ _ hX _ kk => lv_aloadN hx hb hdec (hX.2.2.2 _ _ hw) kk)
  case iload_n i =>
    obtain ⟨a, hw, h⟩ := oz_aI_e h
    exact oz_go (hn _ _ _ _ _ _ _ h) (fun _ _ _ _ _ _ hX _ kk => lv_iload_n hx hb hdec rfl (hX.2.2.2 _ _ hw) kk)
  case iload i =>
    obtain ⟨a, hw, h⟩ := oz_aI_e h
    exact oz_go (hn _ _ _ _ _ _ _ h) (fun _ _ _ _ _ _ hX _ kk => lv_iload hx hb hdec (hX.2.2.2 _ _ hw) kk)
  case lload_n i =>
    obtain ⟨a, hw, h⟩ := oz_aJ_e h
    exact oz_go (hn _ _ _ _ _ _ _ h) (fun _ _ _ _ _ _ hX _ kk => lv_lload_n hx hb hdec rfl (hX.2.2.2 _ _ hw) kk)
  case istore_n i =>
    obtain ⟨a, r, rfl, h⟩ := oz_pI_e h
    obtain ⟨hi, h⟩ := oz_if_e h
    exact oz_goS (hn _ _ _ _ _ _ _ h) (oz_lt_e hi) (fun _ _ _ _ _ hX hl kk => lv_istore_n hx hb hdec rfl (oz_XL_has hX) hl rfl kk)
  case istore i =>
    obtain ⟨a, r, rfl, h⟩ := oz_pI_e h
    obtain ⟨hi, h⟩ := oz_if_e h
    exact oz_goS (hn _ _ _ _ _ _ _ h) (oz_lt_e hi) (fun _ _ _ _ _ hX hl kk => lv_istore hx hb hdec (oz_XL_has hX) hl rfl kk)
  case astore_n i =>
    obtain ⟨a, r, rfl, h⟩ := oz_pR_e h
    obtain ⟨hi, h⟩ := oz_if_e h
    exact oz_goS (hn _ _ _ _ _ _ _ h) (oz_lt_e hi) (fun _ _ _ _ _ hX hl kk => lv_astore_n hx hb hdec rfl (oz_XL_has hX) hl rfl kk)
  case astore i =>
    obtain ⟨a, r, rfl, h⟩ := oz_pR_e h
    obtain ⟨hi, h⟩ := oz_if_e h
    exact oz_goS (hn _ _ _ _ _ _ _ h) (oz_lt_e hi) (fun _ _ _ _ _ hX hl kk => lv_astore hx hb hdec (oz_XL_has hX) hl rfl kk)
  case lstore_n i =>
    obtain ⟨a, r, rfl, h⟩ := oz_pJ_e h
    obtain ⟨hi, h⟩ := oz_if_e h
    exact fun h1 h2 H lo ce sl ls h3 h4 h5 h6 h7 => lv_lstore_n hx hb hdec rfl (oz_XL_has h7) (by rw [← h7.2.2.1]; exact oz_lt_e hi) rfl (fun ls' h' => hn _ _ _ _ _ _ _ h h1 h2 H lo ce sl ls' h3 h4 h5 h6 (oz_XL_st2 h7 (oz_lt_e hi) h'))
  case iinc i n =>
    obtain ⟨a, hw, h⟩ := oz_aI_e h
    obtain ⟨hi, h⟩ := oz_if_e h
    obtain ⟨q, hq⟩ := List.getElem?_of_mem (oz_lv_in κ L 0 i _ hw)
    rw [Nat.zero_add] at hq
    exact oz_goS (hn _ _ _ _ _ _ _ h) (oz_lt_e hi) (fun _ _ _ _ _ hX hl kk => lv_iinc hx hb hdec (oz_XL_has hX) hq (by rw [oz_c_of]) hl rfl kk)
  case iconst n => exact oz_go (hn _ _ _ _ _ _ _ h) (fun _ _ _ _ _ _ _ _ kk => lv_iconst hx hb hdec (oz_c_of n).symm kk)
  case bipush n => exact oz_go (hn _ _ _ _ _ _ _ h) (fun _ _ _ _ _ _ _ _ kk => lv_bipush hx hb hdec (of_decide_eq_true hcst) kk)
  case sipush n => exact oz_go (hn _ _ _ _ _ _ _ h) (fun _ _ _ _ _ _ _ _ kk => lv_sipush hx hb hdec (of_decide_eq_true hcst) kk)
  case lconst n => exact oz_go (hn _ _ _ _ _ _ _ h) (fun _ _ _ _ _ _ _ _ kk => lv_lconst hx hb hdec rfl kk)
  case ldc i =>
    obtain ⟨v, hv, h⟩ := oz_o_e (o := oz_find i τ.2.1.2.1) (k := fun v => nx tl L (.int v :: st) N G R J k) h
    exact oz_go (hn _ _ _ _ _ _ _ h) (fun _ _ _ _ _ _ _ _ kk => lv_ldc hx hb hown (hts _ (hkt _ (oz_find_in _ _ _ hv))) hdec kk)
  case ldc2_w i =>
    obtain ⟨v, hv, h⟩ := oz_o_e (o := oz_find i τ.2.1.2.2.1) (k := fun v => nx tl L (.long v :: st) N G R J k) h
    exact oz_go (hn _ _ _ _ _ _ _ h) (fun _ _ _ _ _ _ _ _ kk => lv_ldc2 hx hb hown (hts _ (hlt _ (oz_find_in _ _ _ hv))) hdec kk)
  case iadd =>
    obtain ⟨b, r, rfl, h⟩ := oz_pI_e h
    obtain ⟨a, r, rfl, h⟩ := oz_pI_e h
    exact oz_go (hn _ _ _ _ _ _ _ h) (fun _ _ _ _ _ _ _ _ kk => lv_iadd hx hb hdec kk)
  case isub =>
    obtain ⟨b, r, rfl, h⟩ := oz_pI_e h
    obtain ⟨a, r, rfl, h⟩ := oz_pI_e h
    exact oz_go (hn _ _ _ _ _ _ _ h) (fun _ _ _ _ _ _ _ _ kk => lv_isub hx hb hdec kk)
  case imul =>
    obtain ⟨b, r, rfl, h⟩ := oz_pI_e h
    obtain ⟨a, r, rfl, h⟩ := oz_pI_e h
    exact oz_go (hn _ _ _ _ _ _ _ h) (fun _ _ _ _ _ _ _ _ kk => lv_imul hx hb hdec kk)
  case iand =>
    obtain ⟨b, r, rfl, h⟩ := oz_pI_e h
    obtain ⟨a, r, rfl, h⟩ := oz_pI_e h
    exact oz_go (hn _ _ _ _ _ _ _ h) (fun _ _ _ _ _ _ _ _ kk => lv_iand hx hb hdec kk)
  case ior =>
    obtain ⟨b, r, rfl, h⟩ := oz_pI_e h
    obtain ⟨a, r, rfl, h⟩ := oz_pI_e h
    exact oz_go (hn _ _ _ _ _ _ _ h) (fun _ _ _ _ _ _ _ _ kk => lv_ior hx hb hdec kk)
  case irem =>
    obtain ⟨b, r, rfl, h⟩ := oz_pI_e h
    obtain ⟨a, r, rfl, h⟩ := oz_pI_e h
    obtain ⟨h0, h⟩ := h
    exact oz_go (hn _ _ _ _ _ _ _ h) (fun _ _ _ _ _ _ _ _ kk => lv_irem hx hb hdec h0 kk)
  case idiv =>
    obtain ⟨b, r, rfl, h⟩ := oz_pI_e h
    obtain ⟨a, r, rfl, h⟩ := oz_pI_e h
    obtain ⟨h0, h⟩ := h
    exact oz_go (hn _ _ _ _ _ _ _ h) (fun _ _ _ _ _ _ _ _ kk => lv_idiv hx hb hdec h0 kk)
  case ishl =>
    obtain ⟨b, r, rfl, h⟩ := oz_pI_e h
    obtain ⟨a, r, rfl, h⟩ := oz_pI_e h
    exact oz_go (hn _ _ _ _ _ _ _ h) (fun _ _ _ _ _ _ _ _ kk => lv_ishl hx hb hdec kk)
  case ishr =>
    obtain ⟨b, r, rfl, h⟩ := oz_pI_e h
    obtain ⟨a, r, rfl, h⟩ := oz_pI_e h
    exact oz_go (hn _ _ _ _ _ _ _ h) (fun _ _ _ _ _ _ _ _ kk => lv_ishr hx hb hdec kk)
  case iushr =>
    obtain ⟨b, r, rfl, h⟩ := oz_pI_e h
    obtain ⟨a, r, rfl, h⟩ := oz_pI_e h
    exact oz_go (hn _ _ _ _ _ _ _ h) (fun _ _ _ _ _ _ _ _ kk => lv_iushr hx hb hdec rfl kk)
  case i2l =>
    obtain ⟨a, r, rfl, h⟩ := oz_pI_e h
    exact oz_go (hn _ _ _ _ _ _ _ h) (fun _ _ _ _ _ _ _ _ kk => lv_i2l hx hb hdec rfl kk)
  case l2i =>
    obtain ⟨a, r, rfl, h⟩ := oz_pJ_e h
    exact oz_go (hn _ _ _ _ _ _ _ h) (fun _ _ _ _ _ _ _ _ kk => lv_l2i hx hb hdec rfl kk)
  case land =>
    obtain ⟨b, r, rfl, h⟩ := oz_pJ_e h
    obtain ⟨a, r, rfl, h⟩ := oz_pJ_e h
    exact oz_go (hn _ _ _ _ _ _ _ h) (fun _ _ _ _ _ _ _ _ kk => lv_land hx hb hdec kk)
  case lor =>
    obtain ⟨b, r, rfl, h⟩ := oz_pJ_e h
    obtain ⟨a, r, rfl, h⟩ := oz_pJ_e h
    exact oz_go (hn _ _ _ _ _ _ _ h) (fun _ _ _ _ _ _ _ _ kk => lv_lor hx hb hdec kk)
  case lshl =>
    obtain ⟨b, r, rfl, h⟩ := oz_pI_e h
    obtain ⟨a, r, rfl, h⟩ := oz_pJ_e h
    exact oz_go (hn _ _ _ _ _ _ _ h) (fun _ _ _ _ _ _ _ _ kk => lv_lshl hx hb hdec rfl kk)
  case lushr =>
    obtain ⟨b, r, rfl, h⟩ := oz_pI_e h
    obtain ⟨a, r, rfl, h⟩ := oz_pJ_e h
    exact oz_go (hn _ _ _ _ _ _ _ h) (fun _ _ _ _ _ _ _ _ kk => lv_lushr hx hb hdec rfl kk)
  case lcmp =>
    obtain ⟨b, r, rfl, h⟩ := oz_pJ_e h
    obtain ⟨a, r, rfl, h⟩ := oz_pJ_e h
    exact oz_go (hn _ _ _ _ _ _ _ h) (fun _ _ _ _ _ _ _ _ kk => W.lcmp hx hb hdec kk)
  case dup =>
    obtain ⟨v, r, rfl, h⟩ := oz_pV_e (st := st) (k := fun v r => oz_if (Nat.beq v.category 1) (nx tl L (v :: v :: r) N G R J k)) h
    obtain ⟨hc1, h⟩ := oz_if_e h
    exact oz_go (hn _ _ _ _ _ _ _ h) (fun _ _ _ _ _ _ _ _ kk => lv_dup hx hb hdec (by rw [oz_v_cat]; exact Nat.eq_of_beq_eq_true hc1) kk)
  case dup2 =>
    obtain ⟨v, r, rfl, h⟩ := oz_pV_e (st := st) (k := fun v r => oz_pV r fun w r => oz_if (Nat.beq v.category 1 && Nat.beq w.category 1) (nx tl L (v :: w :: v :: w :: r) N G R J k)) h
    obtain ⟨w, r, rfl, h⟩ := oz_pV_e h
    obtain ⟨hc1, h⟩ := oz_if_e h
    rw [Bool.and_eq_true] at hc1
    exact oz_go (hn _ _ _ _ _ _ _ h) (fun _ _ _ _ _ _ _ _ kk => lv_dup2_11 hx hb hdec (by rw [oz_v_cat]; exact Nat.eq_of_beq_eq_true hc1.1) (by rw [oz_v_cat]; exact Nat.eq_of_beq_eq_true hc1.2) kk)
  case pop =>
    obtain ⟨v, r, rfl, h⟩ := oz_pV_e (st := st) (k := fun v r => oz_if (Nat.beq v.category 1) (nx tl L r N G R J k)) h
    obtain ⟨hc1, h⟩ := oz_if_e h
    exact oz_go (hn _ _ _ _ _ _ _ h) (fun _ _ _ _ _ _ _ _ kk => lv_pop hx hb hdec (by rw [oz_v_cat]; exact Nat.eq_of_beq_eq_true hc1) kk)
  case ifCond cd t =>
    obtain ⟨a, r, rfl, h⟩ := oz_pI_e h
    obtain ⟨ht, hf⟩ := h
    have ht0 : 0 ≤ t := of_decide_eq_true hcst
    intro h1 h2 H lo ce sl ls h3 h4 h5 h6 h7
    have kt : oz_cond cd a 0 → W p l e Rm s m args below meth c H lo ce sl Q (F0 m t.toNat ls (r.map (oz_v κ))) := fun q => hj _ _ _ _ _ _ _ _ (ht q) h1 h2 H lo ce sl ls h3 h4 h5 h6 h7
    have kf : ¬ oz_cond cd a 0 → W p l e Rm s m args below meth c H lo ce sl Q (F0 m (pc + 3) ls (r.map (oz_v κ))) := fun q => hn _ _ _ _ _ _ _ (hf q) h1 h2 H lo ce sl ls h3 h4 h5 h6 h7
    cases cd
    · exact lv_if_eq hx hb hdec (htg t ht0) kt kf
    · exact lv_if_ne hx hb hdec (htg t ht0) kt (fun q => kf (fun z => z q))
    · exact lv_if_lt hx hb hdec (htg t ht0) kt kf
    · exact lv_if_ge hx hb hdec (htg t ht0) kt kf
    · exact lv_if_gt hx hb hdec (htg t ht0) kt kf
    · exact lv_if_le hx hb hdec (htg t ht0) kt kf
  case if_icmp cd t =>
    obtain ⟨b, r, rfl, h⟩ := oz_pI_e h
    obtain ⟨a, r, rfl, h⟩ := oz_pI_e h
    obtain ⟨ht, hf⟩ := h
    have ht0 : 0 ≤ t := of_decide_eq_true hcst
    intro h1 h2 H lo ce sl ls h3 h4 h5 h6 h7
    have kt : oz_cond cd a b → W p l e Rm s m args below meth c H lo ce sl Q (F0 m t.toNat ls (r.map (oz_v κ))) := fun q => hj _ _ _ _ _ _ _ _ (ht q) h1 h2 H lo ce sl ls h3 h4 h5 h6 h7
    have kf : ¬ oz_cond cd a b → W p l e Rm s m args below meth c H lo ce sl Q (F0 m (pc + 3) ls (r.map (oz_v κ))) := fun q => hn _ _ _ _ _ _ _ (hf q) h1 h2 H lo ce sl ls h3 h4 h5 h6 h7
    cases cd
    · exact lv_icmp_eq hx hb hdec (htg t ht0) kt kf
    · exact lv_icmp_ne hx hb hdec (htg t ht0) kt (fun q => kf (fun z => z q))
    · exact lv_icmp_lt hx hb hdec (htg t ht0) kt kf
    · exact lv_icmp_ge hx hb hdec (htg t ht0) kt kf
    · exact lv_icmp_gt hx hb hdec (htg t ht0) kt kf
    · exact lv_icmp_le hx hb hdec (htg t ht0) kt kf
  case goto t => exact oz_go (hj _ _ _ _ _ _ _ _ h) (fun _ _ _ _ _ _ _ _ kk => lv_goto hx hb hdec (htg t (of_decide_eq_true hcst)) kk)
  case ifnonnull t =>
    rcases st with _ | ⟨v, r⟩
    · exact False.elim h
    · cases v with
      | ref a => exact oz_go (hj _ _ _ _ _ _ _ _ h) (fun _ _ _ _ _ _ _ _ kk => lv_ifnonnull hx hb hdec (htg t (of_decide_eq_true hcst)) kk)
      | null => exact oz_go (hn _ _ _ _ _ _ _ h) (fun _ _ _ _ _ _ _ _ kk => lv_ifnonnullN hx hb hdec kk)
      | _ => exact False.elim h
  case tableswitch d lo hi offs =>
    obtain ⟨a, r, rfl, h⟩ := oz_pI_e h
    have hcst : (decide (0 ≤ d) && (offs.toList.all (fun t => decide (0 ≤ t)) && decide ((lo : Int) + offs.size = hi + 1))) = true := hcst
    simp only [Bool.and_eq_true, decide_eq_true_eq, List.all_eq_true] at hcst
    obtain ⟨hd0, ho0, hsz⟩ := hcst
    have hout : (a.toInt < lo ∨ hi < a.toInt) → oz_A κ N0 nL K0 p l e Rm s m args below meth c Q pc L (.int a :: r) N G R J k := fun hq =>
      oz_go (hj _ _ _ _ _ _ _ _ (oz_sw_out offs.toList lo h (fun j hj2 e2 => by rw [Array.length_toList] at hj2; omega))) (fun _ _ _ _ _ _ _ _ kk => lv_tableOut hx hb hdec hq (htg d hd0) kk)
    by_cases q1 : a.toInt < lo
    · exact hout (Or.inl q1)
    · by_cases q2 : hi < a.toInt
      · exact hout (Or.inr q2)
      · have hjl : (a.toInt - lo).toNat < offs.size := by omega
        have hget : offs[(a.toInt - lo).toNat]? = some offs[(a.toInt - lo).toNat] := Array.getElem?_eq_getElem hjl
        have ht0 : 0 ≤ offs[(a.toInt - lo).toNat] := ho0 _ (by simp)
        refine oz_go (hj _ _ _ _ _ _ _ _ (oz_sw_in offs.toList lo h (a.toInt - lo).toNat offs[(a.toInt - lo).toNat] (by rw [Array.getElem?_toList]; exact hget) (by omega))) (fun _ _ _ _ _ _ _ _ kk => lv_tableIn hx hb hdec q1 q2 ?_ (htg _ ht0) kk)
        rw [Array.getElem?_map, hget]
        rfl
  case getfield x =>
    obtain ⟨i, r, rfl, h⟩ := oz_pR_e h
    obtain ⟨⟨ci, f⟩, hfind, h⟩ := oz_o_e h
    refine fun h1 h2 => ?_
    obtain ⟨⟨hk, hi⟩, h⟩ := oz_ck_e (Nat.le_trans hnb h1) h
    obtain ⟨rr, hc, hf, hlink⟩ := hfl _ (oz_find_in _ _ _ hfind)
    obtain ⟨h6, hnn, -, -, -⟩ := oz_cls hc
    have he : (oz_W κ N G R J)[i]? = some (κ.2.2.1 + i, .inr (ci, oz_F κ G R ci i)) := by rw [oz_W_get hi, oz_ko hk h6]
    have hv := oz_F_get (κ := κ) (G := G) (R := R) (i := i) (c := ci) (k := f) (by rw [← hnn]; exact hf)
    rcases oz_m3_e h with ⟨ht, h⟩ | ⟨ht, h⟩ | ⟨ht, h⟩
    · have ht : oz_t ci f = 0 := ht
      rw [if_neg (fun z => by rw [ht] at z; cases z)] at hv
      exact oz_go (hn _ _ _ _ _ _ _ h) (fun H _ _ _ _ hH hX _ kk => va_get (D := κ.1) (ci := ci) hx hb hts (oz_lay ci rr hc) hown hB.1 hH.2 i he hc f hf (hts _ hlink) (fun _ hz => hz) hv hdec kk) h1 h2
    · have ht : oz_t ci f = 1 := ht
      rw [if_pos ht] at hv
      exact oz_go (hn _ _ _ _ _ _ _ h) (fun H _ _ _ _ hH hX _ kk => va_get (D := κ.1) (ci := ci) hx hb hts (oz_lay ci rr hc) hown hB.1 hH.2 i he hc f hf (hts _ hlink) (fun _ hz => hz) hv hdec (by rw [List.map_cons, oz_v_rf] at kk; exact kk)) h1 h2
    · have ht : oz_t ci f = 2 := ht
      rw [if_neg (fun z => by rw [ht] at z; cases z)] at hv
      exact oz_go (hn _ _ _ _ _ _ _ h) (fun H _ _ _ _ hH hX _ kk => va_get (D := κ.1) (ci := ci) hx hb hts (oz_lay ci rr hc) hown hB.1 hH.2 i he hc f hf (hts _ hlink) (fun _ hz => hz) hv hdec kk) h1 h2
  case putfield x =>
    obtain ⟨⟨ci, f⟩, hfind, h⟩ := oz_o_e (o := oz_find x τ.2.1.1) (k := fun q => oz_m3 (oz_t q.1 q.2)
      (oz_pI st fun v r => oz_pR r fun i r => oz_ck τ i q.1 N (nx tl L r N (oz2 G i q.2 v) R J k))
      (oz_pR st fun y r => oz_pR r fun i r => oz_o τ.2.2.2.1.2.2.1 fun c' => oz_if (Nat.beq c' q.1) (oz_ck τ i q.1 N (nx tl L r N G (oz2 R i q.2 (some y)) J k)))
      (oz_pI st fun v r => oz_pR r fun i r => oz_ck τ i q.1 N (oz_bz v ∧ nx tl L r N (oz2 G i q.2 v) R J k))) h
    obtain ⟨rr, hc, hf, hlink⟩ := hfl _ (oz_find_in _ _ _ hfind)
    rcases oz_m3_e h with ⟨ht, h⟩ | ⟨ht, h⟩ | ⟨ht, h⟩
    · obtain ⟨v, r, rfl, h⟩ := oz_pI_e h
      obtain ⟨i, r, rfl, h⟩ := oz_pR_e h
      intro h1 h2 H lo ce sl ls h3 h4 h5 h6 h7
      obtain ⟨⟨hk, hi⟩, h⟩ := oz_ck_e (Nat.le_trans hnb h1) h
      exact oz_putI hx hb hts hown hB h5 h6 hi hk hc hf hlink (Or.inl ht) hdec (fun H1 lo1 g1 g2 => hn _ _ _ _ _ _ _ h h1 h2 H1 lo1 ce sl ls h3 h4 g1 g2 h7)
    · obtain ⟨y, r1, hst1, g1⟩ := oz_pR_e h
      obtain ⟨i, r, hst2, g2⟩ := oz_pR_e g1
      obtain ⟨c', hc', g3⟩ := oz_o_e g2
      obtain ⟨hcc, g4⟩ := oz_if_e g3
      clear g1 g2 g3 h
      subst hst1
      subst hst2
      have hcc := Nat.eq_of_beq_eq_true hcc
      subst hcc
      obtain ⟨hnm, r2, hr2, hr3⟩ := hini _ hc'
      have hrr : r2 = rr := Option.some.inj (hr2.symm.trans hc)
      subst hrr
      intro h1 h2 H lo ce sl ls h3 h4 h5 h6 h7
      obtain ⟨⟨hk, hi⟩, h⟩ := oz_ck_e (Nat.le_trans hnb h1) g4
      exact oz_putR hx hb hts hown hB h5 h6 hi hk hc hf hlink ht hnm hr3 hdec (fun H1 lo1 g1 g2 => hn _ _ _ _ _ _ _ h h1 h2 H1 lo1 ce sl ls h3 h4 g1 g2 h7)
    · obtain ⟨v, r, rfl, h⟩ := oz_pI_e h
      obtain ⟨i, r, rfl, h⟩ := oz_pR_e h
      intro h1 h2 H lo ce sl ls h3 h4 h5 h6 h7
      obtain ⟨⟨hk, hi⟩, hv, h⟩ := oz_ck_e (Nat.le_trans hnb h1) h
      exact oz_putI hx hb hts hown hB h5 h6 hi hk hc hf hlink (Or.inr ⟨ht, hv⟩) hdec (fun H1 lo1 g1 g2 => hn _ _ _ _ _ _ _ h h1 h2 H1 lo1 ce sl ls h3 h4 g1 g2 h7)
  case iaload =>
    obtain ⟨x, r, rfl, h⟩ := oz_pI_e h
    rcases r with _ | ⟨v, r⟩
    · exact False.elim h
    · cases v with
      | ref i =>
        refine fun h1 h2 => ?_
        obtain ⟨⟨hk, hi⟩, j, rfl, hjl, h⟩ := oz_ck_e (Nat.le_trans hnb h1) h
        have he : (oz_W κ N G R J)[i]? = some (κ.2.2.1 + i, .inl (κ.2.1.1, oz_l i, .inl (G i))) := by rw [oz_W_get hi, oz_k6 hk]
        have hcl : (nI j).toNatClampNeg = j := nI_clamp (Nat.lt_trans hjl (oz_l_lt i))
        refine oz_go (hn _ _ _ _ _ _ _ h) (fun H _ _ _ _ hH hX _ kk => va_iald hx hb hB.1 hH.2 i 0 he rfl (vp_in_nI hjl (oz_l_lt i)) hdec ?_) h1 h2
        rw [hcl]
        exact kk
      | retAddr i =>
        obtain ⟨j, rfl, hjl, h⟩ := h
        obtain ⟨n, hn2⟩ : ∃ n, τ.2.2.2.2.1 = n + 1 := ⟨τ.2.2.2.2.1 - 1, by omega⟩
        obtain ⟨hX0, hbl, hbA, hn31⟩ := hscr n hn2
        have hjn : j < n := by omega
        have hcl : (nI j).toNatClampNeg = j := nI_clamp (by omega)
        refine oz_go (hn _ _ _ _ _ _ _ h) (fun H _ _ _ _ hH hX hS kk => va_sld hx hb hX0 hbl hbA hS (vp_in_nI hjn hn31) hdec ?_)
        rw [hcl]
        exact kk
      | _ => exact False.elim h
  case laload =>
    obtain ⟨x, r, rfl, h⟩ := oz_pI_e h
    obtain ⟨i, r, rfl, h⟩ := oz_pR_e h
    refine fun h1 h2 => ?_
    obtain ⟨⟨hk, hi⟩, j, rfl, hjl, h⟩ := oz_ck_e (Nat.le_trans hnb h1) h
    have he : (oz_W κ N G R J)[i]? = some (κ.2.2.1 + i, .inl (κ.2.1.2.1, oz_l i, .inr (.inl (J i)))) := by rw [oz_W_get hi, oz_k7 hk]
    have hcl : (nI j).toNatClampNeg = j := nI_clamp (Nat.lt_trans hjl (oz_l_lt i))
    refine oz_go (hn _ _ _ _ _ _ _ h) (fun H _ _ _ _ hH hX _ kk => va_lald hx hb hB.1 hH.2 i 1 he rfl (vp_in_nI hjl (oz_l_lt i)) hdec ?_) h1 h2
    rw [hcl]
    exact kk
  case aaload =>
    obtain ⟨x, r, rfl, h⟩ := oz_pI_e h
    obtain ⟨i, r, rfl, h⟩ := oz_pR_e h
    refine fun h1 h2 => ?_
    obtain ⟨⟨hk, hi⟩, j, rfl, hjl, h⟩ := oz_ck_e (Nat.le_trans hnb h1) h
    have he : (oz_W κ N G R J)[i]? = some (κ.2.2.1 + i, .inl (κ.2.1.2.2.2, oz_l i, .inr (.inr (.inr (.inr (fun j => (R i j).map (fun y => κ.2.2.1 + y))))))) := by rw [oz_W_get hi, oz_k9 hk]
    have hcl : (nI j).toNatClampNeg = j := nI_clamp (Nat.lt_trans hjl (oz_l_lt i))
    refine oz_go (hn _ _ _ _ _ _ _ h) (fun H _ _ _ _ hH hX _ kk => va_aldq hx hb hB.1 hH.2 i 3 he rfl (vp_in_nI hjl (oz_l_lt i)) hdec ?_) h1 h2
    rw [hcl]
    rw [List.map_cons, oz_v_rf] at kk
    exact kk
  case iastore =>
    obtain ⟨v, r, rfl, h⟩ := oz_pI_e h
    obtain ⟨x, r, rfl, h⟩ := oz_pI_e h
    obtain ⟨i, r, rfl, h⟩ := oz_pR_e h
    intro h1 h2 H lo ce sl ls h3 h4 h5 h6 h7
    obtain ⟨⟨hk, hi⟩, j, rfl, hjl, h⟩ := oz_ck_e (Nat.le_trans hnb h1) h
    exact oz_iast hx hb hB h5 h6 hi hk hjl hdec (fun H1 lo1 g1 g2 => hn _ _ _ _ _ _ _ h h1 h2 H1 lo1 ce sl ls h3 h4 g1 g2 h7)
  case lastore =>
    obtain ⟨v, r, rfl, h⟩ := oz_pJ_e h
    obtain ⟨x, r, rfl, h⟩ := oz_pI_e h
    obtain ⟨i, r, rfl, h⟩ := oz_pR_e h
    intro h1 h2 H lo ce sl ls h3 h4 h5 h6 h7
    obtain ⟨⟨hk, hi⟩, j, rfl, hjl, h⟩ := oz_ck_e (Nat.le_trans hnb h1) h
    exact oz_last hx hb hB h5 h6 hi hk hjl hdec (fun H1 lo1 g1 g2 => hn _ _ _ _ _ _ _ h h1 h2 H1 lo1 ce sl ls h3 h4 g1 g2 h7)
  case aastore =>
    obtain ⟨y, r, rfl, h⟩ := oz_pR_e h
    obtain ⟨x, r, rfl, h⟩ := oz_pI_e h
    obtain ⟨i, r, rfl, h⟩ := oz_pR_e h
    intro h1 h2 H lo ce sl ls h3 h4 h5 h6 h7
    obtain ⟨⟨hk, hi⟩, ⟨hy1, hy2⟩, j, rfl, hjl, h⟩ := oz_ck_e (Nat.le_trans hnb h1) h
    exact oz_aast hx hb hB h5 h6 hi hk hy2 hy1 hjl hdec (fun H1 lo1 g1 g2 => hn _ _ _ _ _ _ _ h h1 h2 H1 lo1 ce sl ls h3 h4 g1 g2 h7)
  case arraylength =>
    rcases st with _ | ⟨v, r⟩
    · exact False.elim h
    · cases v with
      | retAddr i =>
        rcases oz_z_e (n := τ.2.2.2.2.1) (k0 := False) (k1 := fun n => nx tl L (.int (nI n) :: r) N G R J k) h with ⟨-, h⟩ | ⟨n, hn2, h⟩
        · exact False.elim h
        · obtain ⟨hX0, hbl, hbA, hn31⟩ := hscr n hn2
          exact oz_go (hn _ _ _ _ _ _ _ h) (fun H _ _ _ _ hH hX hS kk => va_slen hx hb hX0 hbl hbA hS hdec kk)
      | _ => exact False.elim h
  case new x =>
    obtain ⟨ci, hfind, ⟨hkN, hroom⟩, h⟩ := oz_o_e (o := oz_find x τ.2.1.2.2.2) (k := fun c => (oz_k N = c ∧ k + (oz_n c + 1) ≤ τ.2.2.2.1.2.2.2.2) ∧ nx tl L (.ref N :: st) (N + 1) (ozz G N 0) (ozz R N none) J (k + (oz_n c + 1))) h
    obtain ⟨rr, hc, g1, g2, g3⟩ := hcn _ (oz_find_in _ _ _ hfind)
    have hnn := (oz_cls hc).2.1
    rw [hK] at hroom
    intro h1 h2 H lo ce sl ls h3 h4 h5 h6 h7
    have hc1 := (hce h3 hroom).1
    have hc2 := (hce h4 hroom).2
    exact oz_newO hx hb hts hown hB h5 h6 hc g1 g2 g3 hkN hc1 (by rw [hnn]; exact hc2) hdec (fun H1 q1 q2 => hn _ _ _ _ _ _ _ h (by omega) hroom H1 lo _ _ ls (by omega) (by show sl + rr.2.2 ≤ k + (oz_n ci + 1); have hnn : rr.2.2 = oz_n ci := hnn; rw [hnn]; omega) q1 q2 h7)
  case newarray t =>
    obtain ⟨x, r, rfl, h⟩ := oz_pI_e h
    cases t with
    | int =>
      obtain ⟨n, rfl, ⟨hkN, hln, hroom⟩, h⟩ := h
      rw [hK] at hroom
      have hb4 := oz_l_le N
      intro h1 h2 H lo ce sl ls h3 h4 h5 h6 h7
      exact oz_newI hx hb hts hB h5 h6 ⟨rfl, hkN⟩ hln (by omega) (hce h3 hroom).1 (hce h4 hroom).2 hdec (fun H1 q1 q2 => hn _ _ _ _ _ _ _ h (by omega) hroom H1 lo _ _ ls (by omega) (by omega) q1 q2 h7)
    | long =>
      obtain ⟨n, rfl, ⟨hkN, hln, hroom⟩, h⟩ := h
      rw [hK] at hroom
      have hb4 := oz_l_le N
      intro h1 h2 H lo ce sl ls h3 h4 h5 h6 h7
      exact oz_newJ hx hb hts hB h5 h6 hkN hln (by omega) (hce h3 hroom).1 (hce h4 hroom).2 hdec (fun H1 q1 q2 => hn _ _ _ _ _ _ _ h (by omega) hroom H1 lo _ _ ls (by omega) (by omega) q1 q2 h7)
    | _ => exact False.elim h
  case anewarray x =>
    obtain ⟨v, r, rfl, h⟩ := oz_pI_e h
    obtain ⟨ci, hfind, h⟩ := oz_o_e h
    obtain ⟨hcc, h⟩ := oz_if_e h
    have hcc := Nat.eq_of_beq_eq_true hcc
    subst hcc
    obtain ⟨n, rfl, ⟨hkN, hln, hroom⟩, h⟩ := h
    obtain ⟨rr, hc, g1, g2, g3⟩ := hcn _ (oz_find_in _ _ _ hfind)
    have hrr : rr = (RX4, TX4, 8) := Option.some.inj (hc.symm.trans rfl)
    subst hrr
    rw [hK] at hroom
    have hb4 := oz_l_le N
    intro h1 h2 H lo ce sl ls h3 h4 h5 h6 h7
    exact oz_newR hx hb hts hown hB h5 h6 g1 hkN hln (by omega) (hce h3 hroom).1 (hce h4 hroom).2 hdec (fun H1 q1 q2 => hn _ _ _ _ _ _ _ h (by omega) hroom H1 lo _ _ ls (by omega) (by omega) q1 q2 h7)
  case invokestatic x => exact oz_callok (kd := 0) (x := x) hnb hK hcall hdec hn h
  case invokevirtual x => exact oz_callok (kd := 1) (x := x) hnb hK hcall hdec hn h
  case invokespecial x => exact oz_callok (kd := 2) (x := x) hnb hK hcall hdec hn h
  case ireturn =>
    obtain ⟨v, r, rfl, h⟩ := oz_pI_e h
    obtain ⟨rfl, h⟩ := oz_nil_e h
    rcases oz_bb_e h with ⟨hrb, h⟩ | ⟨hrb, h⟩
    · exact hretI pc L v N G R J k hmem hdec (fun _ => h.1) h.2
    · exact hretI pc L v N G R J k hmem hdec (fun q => by rw [hrb] at q; cases q) h
  case return_ =>
    obtain ⟨rfl, h⟩ := oz_nil_e (st := st) (k := Φ none N G R J) h
    exact hretV pc L N G R J k hmem hdec h
  all_goals exact False.elim h
end OZS
