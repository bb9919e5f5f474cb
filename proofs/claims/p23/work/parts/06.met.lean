/-! OWN LAYER, part 5: runs, contracts, calls -/
theorem oz_sk_ok : ∀ (P : oz_P) (t : Nat) (q : Nat × Instr) (l : oz_P), oz_sk P t = q :: l → q.1 = t ∧ (q :: l) <:+ P
  | [], _, _, _, h => by cases h
  | a :: P, t, q, l, h => by
    unfold oz_sk at h
    cases hb : Nat.beq a.1 t with
    | true =>
      rw [hb] at h
      cases h
      exact ⟨Nat.eq_of_beq_eq_true hb, List.suffix_refl _⟩
    | false =>
      rw [hb] at h
      obtain ⟨h1, h2⟩ := oz_sk_ok P t q l h
      exact ⟨h1, h2.trans (List.suffix_cons _ _)⟩
theorem oz_chain_ok : ∀ (P : oz_P) (a b : Nat × Instr) (l : oz_P), oz_chain P = true → (a :: b :: l) <:+ P → b.1 = a.1 + oz_len a.1 a.2
  | [], _, _, _, _, h => by
    have := h.length_le
    simp at this
  | [x], a, b, l, _, h => by
    have := h.length_le
    simp at this
  | x :: y :: P, a, b, l, hc, h => by
    have hc : (Nat.beq (x.1 + oz_len x.1 x.2) y.1 && oz_chain (y :: P)) = true := hc
    rw [Bool.and_eq_true] at hc
    rcases List.suffix_cons_iff.mp h with h | h
    · cases h
      exact (Nat.eq_of_beq_eq_true hc.1).symm
    · exact oz_chain_ok (y :: P) a b l hc.2 h
theorem oz_arr_eq {cA : ClassId} {n : Nat} {f g : Nat → Value} (h : ∀ j, j < n → f j = g j) : arrV cA n f = arrV cA n g := by
  unfold arrV
  congr 2
  funext j
  exact h j.val j.isLt
theorem oz_H_eqv {κ : oz_K} {N : Nat} {G : oz_G} {R : oz_R} {J : oz_J} {G' : oz_G} {R' : oz_R} {J' : oz_J} {H : Heap} (h : oz_H κ N G R J H) (he : oz_eqv N G R J G' R' J') : oz_H κ N G' R' J' H := by
  refine ⟨h.1, fun i q hq => ?_⟩
  obtain ⟨hi, rfl⟩ := oz_W_at hq
  have h0 := h.2 i _ (oz_W_get hi)
  have he := he i hi
  unfold oz_w at he
  by_cases hk : oz_k i < 6
  · rw [if_pos hk] at he
    rw [oz_ko rfl hk] at h0 ⊢
    have e : oz_F κ G R (oz_k i) i = oz_F κ G' R' (oz_k i) i := by
      unfold oz_F
      apply List.map_congr_left
      intro k hk2
      obtain ⟨e1, e2, -⟩ := he k (List.mem_range.mp hk2)
      rw [e1, e2]
    rw [← e]
    exact h0
  · rw [if_neg hk] at he
    by_cases h6 : oz_k i = 6
    · rw [oz_k6 h6] at h0 ⊢
      have h0 : H[κ.2.2.1 + i]? = some (vp_cell κ.2.1.1 (oz_l i, .inl (G i))) := h0
      show H[κ.2.2.1 + i]? = some (vp_cell κ.2.1.1 (oz_l i, .inl (G' i)))
      rw [h0, vp_cell_i, vp_cell_i, oz_arr_eq (fun j hj => by rw [(he j hj).1])]
    · by_cases h7 : oz_k i = 7
      · rw [oz_k7 h7] at h0 ⊢
        have h0 : H[κ.2.2.1 + i]? = some (vp_cell κ.2.1.2.1 (oz_l i, .inr (.inl (J i)))) := h0
        show H[κ.2.2.1 + i]? = some (vp_cell κ.2.1.2.1 (oz_l i, .inr (.inl (J' i))))
        rw [h0, vp_cell_l, vp_cell_l, oz_arr_eq (fun j hj => by rw [(he j hj).2.2])]
      · by_cases h8 : oz_k i = 8
        · rw [oz_k8 h8] at h0 ⊢
          have h0 : H[κ.2.2.1 + i]? = some (vp_cell κ.2.1.2.2.1 (oz_l i, .inl (G i))) := h0
          show H[κ.2.2.1 + i]? = some (vp_cell κ.2.1.2.2.1 (oz_l i, .inl (G' i)))
          rw [h0, vp_cell_i, vp_cell_i, oz_arr_eq (fun j hj => by rw [(he j hj).1])]
        · by_cases h9 : oz_k i = 9
          · rw [oz_k9 h9] at h0 ⊢
            have h0 : H[κ.2.2.1 + i]? = some (vp_cell κ.2.1.2.2.2 (oz_l i, .inr (.inr (.inr (.inr (fun j => (R i j).map (fun y => κ.2.2.1 + y))))))) := h0
            show H[κ.2.2.1 + i]? = some (vp_cell κ.2.1.2.2.2 (oz_l i, .inr (.inr (.inr (.inr (fun j => (R' i j).map (fun y => κ.2.2.1 + y)))))))
            rw [h0, vp_cell_q, vp_cell_q, oz_arr_eq (fun j hj => by rw [(he j hj).2.1])]
          · unfold oz_E at h0 ⊢
            rw [if_neg h6, if_neg h7, if_neg h8, if_neg h9] at h0 ⊢
            have hn : oz_n (oz_k i) = 0 := by
              unfold oz_n
              obtain ⟨m, hm⟩ : ∃ m, oz_k i = m + 6 := ⟨oz_k i - 6, by omega⟩
              rw [hm]
              rfl
            have e : oz_F κ G R (oz_k i) i = oz_F κ G' R' (oz_k i) i := by
              unfold oz_F
              rw [hn]
              rfl
            rw [← e]
            exact h0
section OZM
variable {p : Program} {l : Launch} {e : Env} {Rm : Room} {s : State} {m : MethodId} {args : Array Value} {below : List Frame} {meth : Method} {c : Code} {Q : State → Prop}
variable {κ : oz_K} {N0 nL K0 : Nat} {cc : ByteArray} {own : String} {pc : Nat} {L : oz_L} {st : List Value} {N : Nat} {G : oz_G} {R : oz_R} {J : oz_J} {k : Nat}
theorem oz_closed {τ : oz_T} {Φ : oz_C}
    (hx : p.tables.exec = Jvm.exec) (hb : c.code = cc) (hown : s.vm.findClass own = some m.cls) (hts : ∀ w ∈ oz_gt, w.before args s = true) (hB : oz_B κ s)
    (hfl : ∀ q ∈ τ.2.1.1, oz_fok own q) (hkt : ∀ q ∈ τ.2.1.2.1, Jvm.Cond.constant own q.1 q.2 ∈ oz_gt) (hlt : ∀ q ∈ τ.2.1.2.2.1, Jvm.Cond.constantLong own q.1 q.2 ∈ oz_gt) (hcn : ∀ q ∈ τ.2.1.2.2.2, oz_cok own q)
    (hnb : τ.2.2.2.1.2.1 ≤ N0) (hK : τ.2.2.2.1.2.2.2.2 = K0) (hKc : K0 ≤ Rm.cells) (hKs : K0 ≤ Rm.slots) (hini : ∀ c', τ.2.2.2.1.2.2.1 = some c' → meth.name = "<init>" ∧ ∃ r, vwCl[c']? = some r ∧ r.1 = own)
    (hscr : ∀ n, τ.2.2.2.2.1 = n + 1 → va_X κ.2.2.2 n τ.2.2.2.2.2 s s.heap ∧ κ.2.2.2 < s.heap.size ∧ ¬ κ.2.2.1 ≤ κ.2.2.2 ∧ n < 2 ^ 31)
    (hcall : ∀ q ∈ τ.2.2.1, oz_CO κ N0 nL K0 p l e Rm s m args below meth c Q cc q)
    (hretI : ∀ (pc : Nat) (L : oz_L) (v : Int32) (N : Nat) (G : oz_G) (R : oz_R) (J : oz_J) (k : Nat), (pc, Instr.ireturn) ∈ τ.1 → decode cc pc = .ok (.ireturn, 1) → (τ.2.2.2.1.2.2.2.1 = true → oz_bz v) → Φ (some (.int v)) N G R J → oz_A κ N0 nL K0 p l e Rm s m args below meth c Q pc L [.int v] N G R J k)
    (hretV : ∀ (pc : Nat) (L : oz_L) (N : Nat) (G : oz_G) (R : oz_R) (J : oz_J) (k : Nat), (pc, Instr.return_) ∈ τ.1 → decode cc pc = .ok (.return_, 1) → Φ none N G R J → oz_A κ N0 nL K0 p l e Rm s m args below meth c Q pc L [] N G R J k)
    (hdecP : oz_dec cc τ.1 = true) (hchP : oz_chain τ.1 = true) : oz_Cl τ Φ (oz_A κ N0 nL K0 p l e Rm s m args below meth c Q) := by
  have hD := List.all_eq_true.mp hdecP
  have run : ∀ (cuts : List Nat) (n : Nat) (q : Nat × Instr) (tl : oz_P) (L : oz_L) (st : List Value) (N : Nat) (G : oz_G) (R : oz_R) (J : oz_J) (k : Nat), (q :: tl) <:+ τ.1 → oz_wp τ Φ (oz_A κ N0 nL K0 p l e Rm s m args below meth c Q) cuts n (q :: tl) L st N G R J k → oz_A κ N0 nL K0 p l e Rm s m args below meth c Q q.1 L st N G R J k := by
    intro cuts n
    induction n with
    | zero => intro q tl L st N G R J k hs h; exact h
    | succ n ih =>
      intro q tl L st N G R J k hs h
      have hq : q ∈ τ.1 := hs.subset List.mem_cons_self
      have hd := hD q hq
      rw [Bool.and_eq_true] at hd
      have cut : ∀ (is : oz_P) (L : oz_L) (st : List Value) (N : Nat) (G : oz_G) (R : oz_R) (J : oz_J) (k : Nat) (t : Nat), (∀ q2 tl2, is = q2 :: tl2 → q2.1 = t ∧ is <:+ τ.1) → oz_cut cuts is (fun pc' => oz_A κ N0 nL K0 p l e Rm s m args below meth c Q pc' L st N G R J k) (oz_wp τ Φ (oz_A κ N0 nL K0 p l e Rm s m args below meth c Q) cuts n is L st N G R J k) → oz_A κ N0 nL K0 p l e Rm s m args below meth c Q t L st N G R J k := by
        intro is L st N G R J k t hi hc
        cases is with
        | nil => exact hc.elim
        | cons q2 tl2 =>
          obtain ⟨e1, e2⟩ := hi q2 tl2 rfl
          unfold oz_cut at hc
          dsimp only at hc
          split at hc
          · rw [← e1]; exact hc
          · rw [← e1]; exact ih q2 tl2 L st N G R J k e2 hc
      refine oz_step_ok (nx := fun is' L' st' N' G' R' J' k' => oz_cut cuts is' (fun pc' => oz_A κ N0 nL K0 p l e Rm s m args below meth c Q pc' L' st' N' G' R' J' k') (oz_wp τ Φ (oz_A κ N0 nL K0 p l e Rm s m args below meth c Q) cuts n is' L' st' N' G' R' J' k')) (tl := tl) (ins := q.2) (pc := q.1) hx hb hown hts hB hfl hkt hlt hcn hnb hK hKc hKs hini hscr hcall hretI hretV hq (of_decide_eq_true hd.1) hd.2 ?_ ?_ h
      · intro L st N G R J k hc
        refine cut tl L st N G R J k _ (fun q2 tl2 e1 => ?_) hc
        subst e1
        exact ⟨oz_chain_ok τ.1 q q2 tl2 hchP hs, (List.suffix_cons _ _).trans hs⟩
      · intro t L st N G R J k hc
        refine cut (oz_sk τ.1 t) L st N G R J k t (fun q2 tl2 e1 => ?_) hc
        have := oz_sk_ok τ.1 t q2 tl2 e1
        rw [e1]
        exact this
  refine ⟨fun cuts n pc L st N G R J k h => ?_, fun pc L L' st N G R J k hlen hsub h => ?_, fun pc L st N G R J G' R' J' k he h => ?_⟩
  · cases hsk : oz_sk τ.1 pc with
    | nil =>
      rw [hsk] at h
      cases n <;> exact False.elim h
    | cons q tl =>
      rw [hsk] at h
      obtain ⟨e1, e2⟩ := oz_sk_ok τ.1 pc q tl hsk
      rw [← e1]
      exact run cuts n q tl L st N G R J k e2 h
  · exact fun h1 h2 H lo ce sl ls h3 h4 h5 h6 h7 => h h1 h2 H lo ce sl ls h3 h4 h5 h6 ⟨h7.1, h7.2.1, hlen.trans h7.2.2.1, fun i v hv => h7.2.2.2 i v (hsub i v hv)⟩
  · exact fun h1 h2 H lo ce sl ls h3 h4 h5 h6 h7 => h h1 h2 H lo ce sl ls h3 h4 (oz_H_eqv h5 he) h6 h7
end OZM
theorem oz_B.moved {κ : oz_K} {u U : State} (hW : u.WarmedH U.vm) (h : oz_B κ u) : oz_B κ U :=
  ⟨va_K.moved hW.alike h.1, va_AO.moved hW.alike h.2.1, va_Nw.warmM hW h.2.2.1, va_Nw.warmM hW h.2.2.2.1, va_Nw.warmM hW h.2.2.2.2.1, va_Nw.warmM hW h.2.2.2.2.2⟩
theorem oz_B.same {κ : oz_K} {u U : State} (hv : u.vm = U.vm) (h : oz_B κ u) : oz_B κ U :=
  ⟨va_K.moved (u := u) (U := U) (hv ▸ Vm.Alike.refl u.vm) h.1, va_AO.moved (u := u) (U := U) (hv ▸ Vm.Alike.refl u.vm) h.2.1, va_Nw.same rfl hv h.2.2.1, va_Nw.same rfl hv h.2.2.2.1, va_Nw.same rfl hv h.2.2.2.2.1, va_Nw.same rfl hv h.2.2.2.2.2⟩
def oz_ws (y : MethodName) (cc : ByteArray) (maxL : Nat) (ret : Option FieldType) : List Cond := .code y cc maxL ret :: oz_gt
def oz_rm (fr K0 : Nat) : Room := { frames := fr, cells := K0, slots := K0, locals := 40 * fr }
def oz_Q (κ : oz_K) (N0 : Nat) (Φ : oz_C) : Array Value → State → Outcome → State → Prop := fun _ st o t =>
  (∃ (r : Option Value) (N' : Nat) (G' : oz_G) (R' : oz_R) (J' : oz_J), o = .returned (r.map (oz_v κ)) ∧ Φ r N' G' R' J' ∧ N0 ≤ N' ∧ oz_H κ N' G' R' J' t.heap) ∧ va_F (fun q : Nat => κ.2.2.1 ≤ q) st t
def oz_M (l : Launch) (y : MethodName) (cc : ByteArray) (maxL : Nat) (ret : Option FieldType) (nb fr K0 : Nat) (S : oz_S) : Prop := ∀ (κ : oz_K) (Φ : oz_C) (a : List Value) (N : Nat) (G : oz_G) (R : oz_R) (J : oz_J), nb ≤ N → S a N G R J Φ →
  Met l y (oz_ws y cc maxL ret) (oz_rm fr K0) (va_Pc (a.map (oz_v κ)) (fun U => oz_H κ N G R J U.heap ∧ oz_B κ U)) (oz_Q κ N Φ) K0 K0 (fun q : Nat => κ.2.2.1 ≤ q)
/-- what a call site knows -/
def oz_cx (κ : oz_K) (N0 nb : Nat) (p : Program) (s : State) (m : MethodId) (args : Array Value) (c : Code) (cc : ByteArray) (nL : Nat) (own : String) : Prop :=
  p.tables.exec = Jvm.exec ∧ c.code = cc ∧ c.maxLocals = nL ∧ s.vm.findClass own = some m.cls ∧ (∀ w ∈ oz_gt, w.before args s = true) ∧ oz_B κ s ∧ nb ≤ N0
def oz_retok (ret : Option FieldType) (rb : Bool) (P : oz_P) : Bool := match ret with
  | none => P.all (fun q => match q.2 with
    | .ireturn => false
    | _ => true)
  | some .int => !rb && P.all (fun q => match q.2 with
    | .return_ => false
    | _ => true)
  | some .boolean => rb && P.all (fun q => match q.2 with
    | .return_ => false
    | _ => true)
  | _ => false
theorem oz_fill_len : ∀ (l : oz_L) (n : Nat), l.length ≤ n → (oz_fill l n).length = n
  | [], 0, _ => rfl
  | a :: l, 0, h => by simp at h
  | [], n + 1, _ => by
    show (none :: oz_fill [] n).length = n + 1
    rw [List.length_cons, oz_fill_len [] n (Nat.zero_le _)]
  | a :: l, n + 1, h => by
    show (a :: oz_fill l n).length = n + 1
    rw [List.length_cons, oz_fill_len l n (by simpa using h)]
theorem oz_fill_ld : ∀ (l : oz_L) (n i : Nat) (v : Value), oz_ld (oz_fill l n) i = some v → oz_ld l i = some v
  | l, 0, i, v, h => by
    cases l <;> exact h
  | [], n + 1, 0, v, h => by cases h
  | [], n + 1, i + 1, v, h => by
    have h : oz_ld (oz_fill [] n) i = some v := h
    have := oz_fill_ld [] n i v h
    exact this
  | a :: l, n + 1, 0, v, h => h
  | a :: l, n + 1, i + 1, v, h => oz_fill_ld l n i v h
theorem oz_lyt_len : ∀ (a : List Value) (κ : oz_K), (∀ v ∈ a, ∀ x, v ≠ .double x) → (lg_sl (a.map (oz_v κ))).length = (oz_lyt a).length
  | [], _, _ => rfl
  | v :: a, κ, h => by
    have ih := oz_lyt_len a κ (fun w hw => h w (List.mem_cons_of_mem _ hw))
    have hs : lg_sl ((v :: a).map (oz_v κ)) = (if (oz_v κ v).category = 2 then [Slot.val (oz_v κ v), .second] else [.val (oz_v κ v)]) ++ lg_sl (a.map (oz_v κ)) := rfl
    rw [hs, List.length_append, ih, oz_v_cat]
    cases v with
    | double x => exact absurd rfl (h _ List.mem_cons_self x)
    | _ => simp [oz_lyt, Value.category]; try omega
theorem oz_lyt_args : ∀ (a : List Value) (κ : oz_K) (b i : Nat) (v : Value), (∀ v ∈ a, ∀ x, v ≠ .double x) → oz_ld (oz_lyt a) i = some v → (b + i, oz_v κ v) ∈ lv_args b (a.map (oz_v κ))
  | [], _, _, _, _, _, h => by cases h
  | w :: a, κ, b, i, v, hd, h => by
    have hd2 : ∀ v ∈ a, ∀ x, v ≠ .double x := fun w hw => hd w (List.mem_cons_of_mem _ hw)
    show (b + i, oz_v κ v) ∈ (b, oz_v κ w) :: lv_args (if (oz_v κ w).category = 2 then b + 2 else b + 1) (a.map (oz_v κ))
    rw [oz_v_cat]
    cases w with
    | double x => exact absurd rfl (hd _ List.mem_cons_self x)
    | long x =>
      match i, h with
      | 0, h => cases h; exact List.mem_cons_self
      | 1, h => cases h
      | i + 2, h =>
        have := oz_lyt_args a κ (b + 2) i v hd2 h
        rw [show b + (i + 2) = b + 2 + i by omega]
        exact List.mem_cons_of_mem _ this
    | _ =>
      cases i with
      | zero => cases h; exact List.mem_cons_self
      | succ i =>
        have := oz_lyt_args a κ (b + 1) i v hd2 h
        rw [show b + (i + 1) = b + 1 + i by omega]
        exact List.mem_cons_of_mem _ this
/-- arguments that fit into so many places, none a double -/
def oz_fit (a : List Value) (n : Nat) : Prop := (oz_lyt a).length ≤ n ∧ ∀ v ∈ a, ∀ x, v ≠ .double x
theorem oz_entry (a : List Value) (κ : oz_K) {n : Nat} (h : oz_fit a n) : oz_XL κ n (oz_fill (oz_lyt a) n) ((lg_sl (a.map (oz_v κ)) ++ List.replicate (n - (lg_sl (a.map (oz_v κ))).length) Slot.unset).toArray) := by
  have hl := oz_lyt_len a κ h.2
  obtain ⟨h1, h2, h3⟩ := lv_entry (a.map (oz_v κ)) (n := n) (by rw [hl]; exact h.1)
  refine ⟨h1, h2, oz_fill_len _ _ h.1, fun i v hv => ?_⟩
  have := oz_lyt_args a κ 0 i v h.2 (oz_fill_ld _ _ _ _ hv)
  rw [Nat.zero_add] at this
  exact h3 _ this
set_option maxHeartbeats 1000000 in
theorem oz_met {l : Launch} {y : MethodName} {cc : ByteArray} {maxL nb fr K0 : Nat} {ret : Option FieldType} {S : oz_S} {τ : oz_T} {own : String} (himp : oz_Imp τ maxL S) (hfit : ∀ a N G R J Φ, S a N G R J Φ → oz_fit a maxL) (hy : plainName y.cls = true) (hyo : y.cls = own)
    (hfl : ∀ q ∈ τ.2.1.1, oz_fok own q) (hkt : ∀ q ∈ τ.2.1.2.1, Jvm.Cond.constant own q.1 q.2 ∈ oz_gt) (hlt : ∀ q ∈ τ.2.1.2.2.1, Jvm.Cond.constantLong own q.1 q.2 ∈ oz_gt) (hcn : ∀ q ∈ τ.2.1.2.2.2, oz_cok own q)
    (hnb : τ.2.2.2.1.2.1 = nb) (hK : τ.2.2.2.1.2.2.2.2 = K0) (hini : ∀ c', τ.2.2.2.1.2.2.1 = some c' → y.name = "<init>" ∧ ∃ r, vwCl[c']? = some r ∧ r.1 = own) (hscr : τ.2.2.2.2.1 = 0) (hret : oz_retok ret τ.2.2.2.1.2.2.2.1 τ.1 = true)
    (hcall : ∀ (κ : oz_K) (N0 : Nat) (p : Program) (e : Env) (s : State) (m : MethodId) (args : Array Value) (below : List Frame) (meth : Method) (c : Code) (Q : State → Prop), oz_cx κ N0 nb p s m args c cc maxL own → ∀ q ∈ τ.2.2.1, oz_CO κ N0 maxL K0 p l e (oz_rm fr K0) s m args below meth c Q cc q)
    (hdecP : oz_dec cc τ.1 = true) (hchP : oz_chain τ.1 = true) : oz_M l y cc maxL ret nb fr K0 S := by
  intro κ Φ a N G R J hN hS
  refine Met.ofW (cc := cc) (maxL := maxL) (ret := ret) (ws' := oz_gt) hy rfl ?_
  intro p e s m args below meth c s₁ B hml hv
  obtain ⟨rfl, hH, hB⟩ := hv
  have hx := B.exec
  have hb := B.bytes
  have hr := B.returns
  have hlocks := B.notSynchronized
  have hts0 := atoms_spec (ws := oz_ws y cc maxL ret) B.pre
  have hts : ∀ w ∈ oz_gt, w.before (a.map (oz_v κ)).toArray s = true := fun w hw => hts0 w (List.mem_cons_of_mem _ hw)
  have hown : s.vm.findClass own = some m.cls := by rw [← hyo]; exact findClass_of_methodNamed B.named
  have hname : meth.name = y.name := (name_of_methodNamed B.named B.method).1
  have hcl := oz_closed (κ := κ) (N0 := N) (nL := maxL) (K0 := K0) (p := p) (l := l) (e := e) (Rm := oz_rm fr K0) (s := s) (m := m) (args := (a.map (oz_v κ)).toArray) (below := below) (meth := meth) (c := c) (Q := MQ below (oz_Q κ N Φ) (a.map (oz_v κ)).toArray s K0 K0 (fun q : Nat => κ.2.2.1 ≤ q)) (cc := cc) (own := own) (τ := τ) (Φ := Φ)
    hx hb hown hts hB hfl hkt hlt hcn (by rw [hnb]; exact hN) hK (Nat.le_refl _) (Nat.le_refl _) (fun c' hc' => by rw [hname]; exact hini c' hc') (fun n hn => by rw [hscr] at hn; cases hn)
    (hcall κ N p e s m _ below meth c _ ⟨hx, hb, hml, hown, hts, hB, hN⟩) ?_ ?_ hdecP hchP
  · have hA := himp Φ _ a N G R J (by rw [hnb]; exact hN) hS hcl
    have hS0 : va_S (fun q : Nat => κ.2.2.1 ≤ q) s.heap s.heap [] := va_S.rf
    have := hA (Nat.le_refl _) (Nat.zero_le _) s.heap [] 0 0 _ (Nat.le_refl _) (Nat.le_refl _) hH hS0 (oz_entry a κ (hfit _ _ _ _ _ _ hS))
    rw [lg_entry_eq]
    exact this
  · intro pc L v N' G' R' J' k hm hd hbz hΦ h1 h2 H lo ce sl ls h3 h4 h5 h6 h7
    have hq : ∀ t : State, t.heap = H → s.WarmedH t.vm → oz_Q κ N Φ (a.map (oz_v κ)).toArray s (.returned (some (.int v))) t := fun t ht hW => ⟨⟨some (.int v), N', G', R', J', rfl, hΦ, h1, by rw [ht]; exact h5⟩, h6.F ht⟩
    unfold oz_retok at hret
    split at hret
    · have := List.all_eq_true.mp hret _ hm
      simp at this
    · refine W.widen (k := K0) (n := K0) (by omega) (by omega) ?_
      exact W.iret hx hb hr hq h6.2.2 hd
    · rw [Bool.and_eq_true] at hret
      refine W.widen (k := K0) (n := K0) (by omega) (by omega) ?_
      exact W.zret hx hb hr (by rcases hbz hret.1 with rfl | rfl <;> rfl) hq h6.2.2 hd
    · cases hret
  · intro pc L N' G' R' J' k hm hd hΦ h1 h2 H lo ce sl ls h3 h4 h5 h6 h7
    have hq : ∀ t : State, t.heap = H → s.WarmedH t.vm → oz_Q κ N Φ (a.map (oz_v κ)).toArray s (.returned none) t := fun t ht hW => ⟨⟨none, N', G', R', J', rfl, hΦ, h1, by rw [ht]; exact h5⟩, h6.F ht⟩
    unfold oz_retok at hret
    split at hret
    · refine W.widen (k := K0) (n := K0) (by omega) (by omega) ?_
      exact W.vret hx hb hr hq h6.2.2 hd
    · rw [Bool.and_eq_true] at hret
      have := List.all_eq_true.mp hret.2 _ hm
      simp at this
    · rw [Bool.and_eq_true] at hret
      have := List.all_eq_true.mp hret.2 _ hm
      simp at this
    · cases hret
