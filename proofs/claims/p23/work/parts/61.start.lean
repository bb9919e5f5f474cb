/-! the law from its entry -/
theorem lw_w {i : Nat} {w : Cond} (h : tables_1[i]? = some w) : w ∈ lw_tbl := List.mem_append_right _ (List.mem_of_getElem? h)
theorem law_K {s : State} {args : Array Value} (hts : ∀ w ∈ lw_tbl, w.before args s = true) (z b : Nat) : ∃ κ : oz_K, κ.2.2.1 = z ∧ κ.2.2.2 = b ∧ oz_B κ s := by
  have hg : ∀ w ∈ oz_gt, w.before args s = true := fun w hw => hts w (List.mem_filter.mp hw).1
  obtain ⟨c0, i0, k0⟩ := u_known (C := RX0) (T := TX0) (N := 5) (n := 5) hg (oz_lay 0 _ rfl) (hts _ (lw_w (i := 60) (by decide +kernel)))
  obtain ⟨c1, i1, k1⟩ := u_known (C := RX2) (T := TX2) (N := 3) (n := 3) hg (oz_lay 1 _ rfl) (hts _ (lw_w (i := 108) (by decide +kernel)))
  obtain ⟨c2, i2, k2⟩ := u_known (C := RX3) (T := TX3) (N := 5) (n := 5) hg (oz_lay 2 _ rfl) (hts _ (lw_w (i := 80) (by decide +kernel)))
  obtain ⟨c3, i3, k3⟩ := u_known (C := RX4) (T := TX4) (N := 8) (n := 8) hg (oz_lay 3 _ rfl) (hts _ (lw_w (i := 18) (by decide +kernel)))
  obtain ⟨c4, i4, k4⟩ := u_known (C := RX5) (T := TX5) (N := 7) (n := 7) hg (oz_lay 4 _ rfl) (hts _ (lw_w (i := 10) (by decide +kernel)))
  obtain ⟨cI, kI, pI, fI', hI, dI'⟩ := Cond.arrayClass_spec (hts (.arrayClass .int) (lw_w (i := 57) (by decide +kernel)))
  obtain ⟨cJ, kJ, pJ, fJ', hJ, dJ'⟩ := Cond.arrayClass_spec (hts (.arrayClass .long) (lw_w (i := 126) (by decide +kernel)))
  have hov := hts (.arrayOver (.object RX4)) (lw_w (i := 58) (by decide +kernel))
  obtain ⟨pO, cO, kO, hpO, -, hO, dO, nO⟩ := Cond.arrayOver_spec hov
  refine ⟨((fun k => if k = 0 then c0 else if k = 1 then c1 else if k = 2 then c2 else if k = 3 then c3 else c4, fun k => if k = 0 then i0 else if k = 1 then i1 else if k = 2 then i2 else if k = 3 then i3 else i4), (cI, cJ, cI, cO), z, b), rfl, rfl, ⟨fun k q hq => ?_, fun k q hq => ?_⟩, va_AO.of hov, va_Nw.of rfl (hts _ (lw_w (i := 61) (by decide +kernel))), va_Nw.of rfl (hts _ (lw_w (i := 81) (by decide +kernel))), va_Nw.of rfl (hts _ (lw_w (i := 109) (by decide +kernel))), va_Nw.of rfl (hts _ (lw_w (i := 114) (by decide +kernel)))⟩
  · match k, hq with
    | 0, hq => cases hq; exact k0
    | 1, hq => cases hq; exact k1
    | 2, hq => cases hq; exact k2
    | 3, hq => cases hq; exact k3
    | 4, hq => cases hq; exact k4
    | k + 5, hq => simp [vwCl] at hq
  · match k, hq with
    | 0, hq => cases hq; exact ⟨fun n z => ⟨(fun k h => by cases h), kI, hI, pI, dI'⟩, fI'⟩
    | 1, hq => cases hq; exact ⟨fun n z => ⟨(fun k h => by cases h), kJ, hJ, pJ, dJ'⟩, fJ'⟩
    | 2, hq => cases hq; exact ⟨fun n z => ⟨(fun k h => by cases h), kI, hI, pI, dI'⟩, fI'⟩
    | 3, hq => cases hq; exact ⟨fun n z => ⟨(fun k h => by cases h), kO, hO, pO, dO⟩, kO, pO, hO, dO, hpO, nO⟩
    | k + 4, hq => simp [oz_ty] at hq
theorem law_walk (hH : ∀ S, StOk S → sHb S) {p : Program} {e : Env} {s : State} {m : MethodId} {below : List Frame} {meth : Method} {c : Code} (l : Launch) {b L : Nat} {xs : Nat → Int32} (hL : L ≤ 260) (C0 : lw_At p s m meth c b L xs) : W p l e room_1 s m #[Value.ref b] below meth c s.heap [] 0 0 (lw_Z below #[Value.ref b] s) (entryFrame m ([Value.ref b] : List Value).toArray 8) := by
  obtain ⟨hx, hb, hr, hml, hown, hts, hX, hbl, hlocks, hgv⟩ := id C0
  obtain ⟨κ, hz, hkb, hB⟩ := law_K hts s.heap.size b
  have hg : ∀ w ∈ oz_gt, w.before #[Value.ref b] s = true := fun w hw => hts w (List.mem_filter.mp hw).1
  have hscr : ∀ (τ : oz_T), τ.2.2.2.2 = (L + 1, xs) → ∀ n, τ.2.2.2.2.1 = n + 1 → va_X κ.2.2.2 n τ.2.2.2.2.2 s s.heap ∧ κ.2.2.2 < s.heap.size ∧ ¬ κ.2.2.1 ≤ κ.2.2.2 ∧ n < 2 ^ 31 := fun τ hτ n hn => by
    rw [hτ] at hn ⊢
    have hn : L + 1 = n + 1 := hn
    have : n = L := by omega
    subst this
    rw [hkb, hz]
    exact ⟨hX, hbl, by omega, by omega⟩
  have hretI : ∀ (N0 : Nat) (pc : Nat) (L' : oz_L) (v : Int32) (N : Nat) (G : oz_G) (R : oz_R) (J : oz_J) (k : Nat), (pc, Instr.ireturn) ∈ P_L_law → decode code pc = .ok (.ireturn, 1) → (true = true → oz_bz v) → lwF (some (.int v)) N G R J → oz_A κ N0 8 6000 p l e room_1 s m #[Value.ref b] below meth c (lw_Z below #[Value.ref b] s) pc L' [.int v] N G R J k := by
    intro N0 pc L' v N G R J k hm hd _ hv h1 h2 H lo ce sl ls h3 h4 h5 h6 h7
    have hv : some (Value.int v) = some (.int 1) := hv
    have hv1 : v = 1 := by
      have := Option.some.inj hv
      injection this
    subst hv1
    refine va_forget (fun q hq => by have := h6.2.2 q hq; rw [← hz]; exact this) ?_
    refine W.widen (k := 600000) (n := 7302250) (by omega) (by omega) ?_
    exact lw_ret hx hb hr hlocks hd
  have hretV : ∀ (N0 : Nat) (pc : Nat) (L' : oz_L) (N : Nat) (G : oz_G) (R : oz_R) (J : oz_J) (k : Nat), (pc, Instr.return_) ∈ P_L_law → decode code pc = .ok (.return_, 1) → lwF none N G R J → oz_A κ N0 8 6000 p l e room_1 s m #[Value.ref b] below meth c (lw_Z below #[Value.ref b] s) pc L' [] N G R J k := by
    intro N0 pc L' N G R J k hm hd hv
    have hv : (none : Option Value) = some (.int 1) := hv
    cases hv
  have hclA : oz_Cl (t_lawA L xs) lwF (oz_A κ 0 8 6000 p l e room_1 s m #[Value.ref b] below meth c (lw_Z below #[Value.ref b] s)) := oz_closed (τ := t_lawA L xs) (own := RL) hx hb hown hg hB fl_L_ok kt_L_ok lt_L_ok cn_L_ok (Nat.zero_le _) rfl (by decide) (by decide) (fun c' h => by cases h) (hscr (t_lawA L xs) rfl) (law_callsA l ⟨hx, hb, hml, hown, hg, hB, Nat.zero_le _⟩) (hretI 0) (hretV 0) D_L_law C_L_law
  have hclB : oz_Cl (t_lawB L xs) lwF (oz_A κ 44 8 6000 p l e room_1 s m #[Value.ref b] below meth c (lw_Z below #[Value.ref b] s)) := oz_closed (τ := t_lawB L xs) (own := RL) hx hb hown hg hB fl_L_ok kt_L_ok lt_L_ok cn_L_ok (Nat.le_refl _) rfl (by decide) (by decide) (fun c' h => by cases h) (hscr (t_lawB L xs) rfl) (law_callsB l (by have hs := hscr (t_lawB L xs) rfl L rfl; exact hs) ⟨hx, hb, hml, hown, hg, hB, Nat.le_refl _⟩) (hretI 44) (hretV 44) D_L_law C_L_law
  have hA := law_init hclA (fun _ _ => 0) (fun _ _ => 0) (fun G' J' hCR => by
    have hB2 := law_10 hH hclB 4 0 (by decide) none none none none none 44 G' (rmR hi0 sl0) J' 4710 W00 (by decide) hCR W00_ok
    intro h1 h2
    exact hB2 (Nat.le_refl _) h2)
  have hfit : oz_fit [Value.retAddr 0] 8 := oz_fit_of (Nat.le_of_ble_eq_true rfl) rfl
  have hent := oz_entry [Value.retAddr 0] κ hfit
  have emap : ([Value.retAddr 0] : List Value).map (oz_v κ) = [Value.ref b] := by
    show [Value.ref κ.2.2.2] = _
    rw [hkb]
  rw [emap] at hent
  have hP : oz_H κ 0 (fun _ _ => 0) R00 (fun _ _ => 0) s.heap := ⟨by rw [hz]; rfl, fun k q h => by simp [oz_W] at h⟩
  rw [lg_entry_eq]
  exact hA (Nat.le_refl _) (Nat.zero_le _) s.heap [] 0 0 _ (Nat.le_refl _) (Nat.le_refl _) hP va_S.rf hent
