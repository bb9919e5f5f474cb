/-! OWN LAYER: contracts that speak of the script too -/
def oz_sc (κ : oz_K) (n : Nat) (xs : Nat → Int32) (U : State) : Prop := va_X κ.2.2.2 n xs U U.heap ∧ κ.2.2.2 < U.heap.size ∧ ¬ κ.2.2.1 ≤ κ.2.2.2 ∧ n < 2 ^ 31
theorem oz_sc.same {κ : oz_K} {n : Nat} {xs : Nat → Int32} {u U : State} (hh : u.heap = U.heap) (hv : u.vm = U.vm) (h : oz_sc κ n xs u) : oz_sc κ n xs U := by
  obtain ⟨h1, h2, h3, h4⟩ := h
  rw [hh] at h1 h2
  exact ⟨va_X.moved (u := u) (U := U) (hv ▸ Vm.Alike.refl u.vm) h1, h2, h3, h4⟩
theorem oz_sc.at {κ : oz_K} {n : Nat} {xs : Nat → Int32} {u U : State} {H : Heap} {locs : List Loc} (h : oz_sc κ n xs u) (hS : va_S (fun q : Nat => κ.2.2.1 ≤ q) u.heap H locs) (hU : U.heap = H) (hW : u.WarmedH U.vm) : oz_sc κ n xs U := by
  obtain ⟨h1, h2, h3, h4⟩ := h
  refine ⟨?_, ?_, h3, h4⟩
  · rw [hU]
    exact va_X.moved hW.alike (va_X.kept h1 (hS.2.1 _ h2 h3))
  · rw [hU]
    exact Nat.lt_of_lt_of_le h2 hS.1
def oz_MX (l : Launch) (y : MethodName) (cc : ByteArray) (maxL : Nat) (ret : Option FieldType) (nb fr K0 sn : Nat) (sx : Nat → Int32) (S : oz_S) : Prop := ∀ (κ : oz_K) (Φ : oz_C) (a : List Value) (N : Nat) (G : oz_G) (R : oz_R) (J : oz_J), nb ≤ N → S a N G R J Φ →
  Met l y (oz_ws y cc maxL ret) (oz_rm fr K0) (va_Pc (a.map (oz_v κ)) (fun U => oz_H κ N G R J U.heap ∧ oz_B κ U ∧ oz_sc κ sn sx U)) (oz_Q κ N Φ) K0 K0 (fun q : Nat => κ.2.2.1 ≤ q)
set_option maxHeartbeats 1000000 in
theorem oz_metX {l : Launch} {y : MethodName} {cc : ByteArray} {maxL nb fr K0 sn : Nat} {sx : Nat → Int32} {ret : Option FieldType} {S : oz_S} {τ : oz_T} {own : String} (himp : oz_Imp τ maxL S) (hfit : ∀ a N G R J Φ, S a N G R J Φ → oz_fit a maxL) (hy : plainName y.cls = true) (hyo : y.cls = own)
    (hfl : ∀ q ∈ τ.2.1.1, oz_fok own q) (hkt : ∀ q ∈ τ.2.1.2.1, Jvm.Cond.constant own q.1 q.2 ∈ oz_gt) (hlt : ∀ q ∈ τ.2.1.2.2.1, Jvm.Cond.constantLong own q.1 q.2 ∈ oz_gt) (hcn : ∀ q ∈ τ.2.1.2.2.2, oz_cok own q)
    (hnb : τ.2.2.2.1.2.1 = nb) (hK : τ.2.2.2.1.2.2.2.2 = K0) (hini : ∀ c', τ.2.2.2.1.2.2.1 = some c' → y.name = "<init>" ∧ ∃ r, vwCl[c']? = some r ∧ r.1 = own) (hscr : τ.2.2.2.2 = (sn + 1, sx)) (hret : oz_retok ret τ.2.2.2.1.2.2.2.1 τ.1 = true)
    (hcall : ∀ (κ : oz_K) (N0 : Nat) (p : Program) (e : Env) (s : State) (m : MethodId) (args : Array Value) (below : List Frame) (meth : Method) (c : Code) (Q : State → Prop), oz_cx κ N0 nb p s m args c cc maxL own → ∀ q ∈ τ.2.2.1, oz_CO κ N0 maxL K0 p l e (oz_rm fr K0) s m args below meth c Q cc q)
    (hdecP : oz_dec cc τ.1 = true) (hchP : oz_chain τ.1 = true) : oz_MX l y cc maxL ret nb fr K0 sn sx S := by
  intro κ Φ a N G R J hN hS
  refine Met.ofW (cc := cc) (maxL := maxL) (ret := ret) (ws' := oz_gt) hy rfl ?_
  intro p e s m args below meth c s₁ B hml hv
  obtain ⟨rfl, hH, hB, hX⟩ := hv
  have hx := B.exec
  have hb := B.bytes
  have hr := B.returns
  have hlocks := B.notSynchronized
  have hts0 := atoms_spec (ws := oz_ws y cc maxL ret) B.pre
  have hts : ∀ w ∈ oz_gt, w.before (a.map (oz_v κ)).toArray s = true := fun w hw => hts0 w (List.mem_cons_of_mem _ hw)
  have hown : s.vm.findClass own = some m.cls := by rw [← hyo]; exact findClass_of_methodNamed B.named
  have hname : meth.name = y.name := (name_of_methodNamed B.named B.method).1
  have hcl := oz_closed (κ := κ) (N0 := N) (nL := maxL) (K0 := K0) (p := p) (l := l) (e := e) (Rm := oz_rm fr K0) (s := s) (m := m) (args := (a.map (oz_v κ)).toArray) (below := below) (meth := meth) (c := c) (Q := MQ below (oz_Q κ N Φ) (a.map (oz_v κ)).toArray s K0 K0 (fun q : Nat => κ.2.2.1 ≤ q)) (cc := cc) (own := own) (τ := τ) (Φ := Φ)
    hx hb hown hts hB hfl hkt hlt hcn (by rw [hnb]; exact hN) hK (Nat.le_refl _) (Nat.le_refl _) (fun c' hc' => by rw [hname]; exact hini c' hc') (fun n hn => by rw [hscr] at hn ⊢; cases hn; exact hX)
    (hcall κ N p e s m _ below meth c _ ⟨hx, hb, hml, hown, hts, hB, hN⟩) ?_ ?_ hdecP hchP
  · have hA := himp Φ _ a N G R J (by rw [hnb]; exact hN) hS hcl
    have hS0 : va_S (fun q : Nat => κ.2.2.1 ≤ q) s.heap s.heap [] := va_S.rf
    have := hA (Nat.le_refl _) (Nat.zero_le _) s.heap [] 0 0 _ (Nat.le_refl _) (Nat.le_refl _) hH hS0 (oz_entry a κ (hfit _ _ _ _ _ _ hS))
    rw [lg_entry_eq]
    exact this
  · intro pc L v N' G' R' J' k hm hd hbz hΦ h1 h2 H lo ce sl ls h3 h4 h5 h6 h7
    have hq : ∀ t : State, t.heap = H → s.WarmedH t.vm → oz_Q κ N Φ (a.map (oz_v κ)).toArray s (.returned (some (.int v))) t := fun t ht hW => ⟨⟨some (.int v), N', G', R', J', rfl, hΦ, h1, by rw [ht]; exact h5⟩, h6.F ht⟩
    unfold oz_retok at hret
    split at hret
    · have := List.all_eq_true.mp hret _ hm
      simp at this
    · refine W.widen (k := K0) (n := K0) (by omega) (by omega) ?_
      exact W.iret hx hb hr hq h6.2.2 hd
    · rw [Bool.and_eq_true] at hret
      refine W.widen (k := K0) (n := K0) (by omega) (by omega) ?_
      exact W.zret hx hb hr (by rcases hbz hret.1 with rfl | rfl <;> rfl) hq h6.2.2 hd
    · cases hret
  · intro pc L N' G' R' J' k hm hd hΦ h1 h2 H lo ce sl ls h3 h4 h5 h6 h7
    have hq : ∀ t : State, t.heap = H → s.WarmedH t.vm → oz_Q κ N Φ (a.map (oz_v κ)).toArray s (.returned none) t := fun t ht hW => ⟨⟨none, N', G', R', J', rfl, hΦ, h1, by rw [ht]; exact h5⟩, h6.F ht⟩
    unfold oz_retok at hret
    split at hret
    · refine W.widen (k := K0) (n := K0) (by omega) (by omega) ?_
      exact W.vret hx hb hr hq h6.2.2 hd
    · rw [Bool.and_eq_true] at hret
      have := List.all_eq_true.mp hret.2 _ hm
      simp at this
    · rw [Bool.and_eq_true] at hret
      have := List.all_eq_true.mp hret.2 _ hm
      simp at this
    · cases hret
section OZCX
variable {p : Program} {l : Launch} {e : Env} {Rm : Room} {s : State} {m : MethodId} {args : Array Value} {below : List Frame} {meth : Method} {c : Code} {Q : State → Prop}
variable {κ : oz_K} {N0 nL K0 nb : Nat} {cc : ByteArray} {own : String}
theorem oz_blindX {N : Nat} {G : oz_G} {R : oz_R} {J : oz_J} {av : List Value} {sn : Nat} {sx : Nat → Int32} : FrameBlind (va_Pc av (fun U => oz_H κ N G R J U.heap ∧ oz_B κ U ∧ oz_sc κ sn sx U)) := fun _ _ _ _ q => ⟨q.1, q.2.1, oz_B.same rfl q.2.2.1, oz_sc.same rfl rfl q.2.2.2⟩
theorem oz_csX {sn : Nat} {sx : Nat → Int32} {y : MethodName} {cc' : ByteArray} {maxL' nb' fr' K' idx n : Nat} {ret : Option FieldType} {S : oz_S} (hsc : oz_sc κ sn sx s) (hM : oz_MX l y cc' maxL' ret nb' fr' K' sn sx S) (cx : oz_cx κ N0 nb p s m args c cc nL own) (hnb : nb' ≤ nb) (hlink : Cond.methodLink own idx y ∈ oz_gt) (hstat : Cond.static y ∈ oz_gt) (hini : Cond.initialized y.cls ∈ oz_gt) (hcode : Cond.code y cc' maxL' ret ∈ oz_gt)
    (hd : y.cls ≠ "java/lang/invoke/MethodHandle" ∧ y.cls ≠ "java/lang/invoke/VarHandle" ∧ (parseMethodDescriptor y.desc).map (fun d => d.parameters.length) = some n) (hR : fr' + 1 ≤ Rm.frames ∧ 40 * (fr' + 1) ≤ Rm.locals) (hm : maxL' ≤ 21) (hK : K0 ≤ Rm.cells ∧ K0 ≤ Rm.slots) : oz_CO κ N0 nL K0 p l e Rm s m args below meth c Q cc (idx, 0, n, K', S) := by
  obtain ⟨hx, hb, hml, hown, hts, hB, hnb0⟩ := cx
  intro Φ1 pc L a rest N G R J k hN hlen hdec hcat hroom hS hcont h1 h2 H lo ce sl ls h3 h4 h5 h6 h7
  have hMet := hM κ Φ1 a N G R J (by omega) hS
  have hroom : k + K' ≤ K0 := hroom
  have hlen : a.length = n := hlen
  have hr := va_runS (e := e) (below := below) (meth := meth) (H := H) (locs := lo) (cells := ce) (slots := sl) (As := a.map (oz_v κ)) (rest := rest.map (oz_v κ)) (g := F0 m pc ls ((a.reverse ++ rest).map (oz_v κ))) ⟨hx, hb, hml, hown, hts⟩ hMet (R := Rm) (own := own) (index := idx) (n := n) (mc := K') (ms := K')
    ⟨callB_of n hts (oz_good y cc' maxL' ret hcode) rfl rfl rfl (hts _ hini) (hts _ hlink) hd (oz_rmok hR hm K'), hts _ hstat⟩ ⟨oz_blindX, fun U hU hW => ⟨rfl, by rw [hU]; exact h5, oz_B.moved hW hB, oz_sc.at hsc h6 hU hW⟩⟩ rfl (by rw [List.length_map]; exact hlen) (by rw [← h7.1]) (by simp) (by show 2 * 0 + _ ≤ _; rw [oz_cats]; omega) hdec ⟨by omega, by omega⟩
  refine oz_ret hr h6 (fun r N' G' R' J' H1 lo1 hΦ hN' hH1 hS1 => ?_)
  rw [oz_stk]
  exact hcont r N' G' R' J' hΦ (by omega) hroom H1 lo1 _ _ ls (by show ce + K' ≤ k + K'; omega) (by show sl + K' ≤ k + K'; omega) hH1 hS1 h7
end OZCX
