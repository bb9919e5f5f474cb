/-! OWN LAYER, part 3: writes and new cells, with the whole heap in view -/
theorem oz_arrI : Cond.arrayClass .int ∈ oz_gt := oz_gtw (i := 57) (by decide +kernel) rfl
theorem oz_arrJ : Cond.arrayClass .long ∈ oz_gt := oz_gtw (i := 126) (by decide +kernel) rfl
section OZW
variable {p : Program} {l : Launch} {e : Env} {Rm : Room} {s : State} {m : MethodId} {args : Array Value} {below : List Frame} {meth : Method} {c : Code} {H : Heap} {locs : List Loc} {cells slots : Nat} {Q : State → Prop}
variable {cc : ByteArray} {pc : Nat} {ls : Array Slot} {rest : List Value} {κ : oz_K} {N : Nat} {G : oz_G} {R : oz_R} {J : oz_J} {H0 : Heap} {i : Nat} {own : String}
theorem oz_putI (hx : p.tables.exec = Jvm.exec) (hb : c.code = cc) {x ci f : Nat} {r : vw_C} {v : Int32} (hts : ∀ w ∈ oz_gt, w.before args s = true) (hown : s.vm.findClass own = some m.cls) (hB : oz_B κ s) (hH : oz_H κ N G R J H) (hS : va_S (fun q : Nat => κ.2.2.1 ≤ q) H0 H locs) (hi : i < N) (hk : oz_k i = ci) (hc : vwCl[ci]? = some r) (hf : f < r.2.2)
    (hlink : Cond.fieldLink own x (r.2.1 f).1 (r.2.1 f).2.1 (r.2.1 f).2.2.1 ∈ oz_gt) (ht : oz_t ci f = 0 ∨ (oz_t ci f = 2 ∧ oz_bz v)) (hdg : decode cc pc = .ok (.putfield x, 3))
    (kk : ∀ (H1 : Heap) (locs1 : List Loc), oz_H κ N (oz2 G i f v) R J H1 → va_S (fun q : Nat => κ.2.2.1 ≤ q) H0 H1 locs1 → W p l e Rm s m args below meth c H1 locs1 cells slots Q (F0 m (pc + 3) ls rest)) : W p l e Rm s m args below meth c H locs cells slots Q (F0 m pc ls (.int v :: .ref (κ.2.2.1 + i) :: rest)) := by
  obtain ⟨h6, hn, hty, hnm, hF⟩ := oz_cls hc
  have hin := oz_lay ci r hc
  have he : (oz_W κ N G R J)[i]? = some (κ.2.2.1 + i, .inr (ci, oz_F κ G R ci i)) := by rw [oz_W_get hi, oz_ko hk h6]
  have hap := va_apart (own := own) hts hin (oz_fty ci) hty hnm hB.1 hc
  obtain ⟨r', h1, cell, q1, q2, q3, q4⟩ := hH.2 i _ he
  have hr : r' = r := Option.some.inj (h1.symm.trans hc)
  subst hr
  obtain ⟨hSl, hfc, kC, hkC, hkind⟩ := hB.1.1 ci _ hc
  obtain ⟨cf, kf, fi, fd, hi2, hsl⟩ := hSl f hf
  have ht1 : oz_t ci f ≠ 1 := by rcases ht with h | ⟨h, -⟩ <;> rw [h] <;> decide
  have hfin : (r'.2.1 f).2.2.2 = false := by rw [(hF f hf).2.2.2.2.1]; exact decide_eq_false ht1
  have hlay := hts _ (hin _ (u_in_lay hf))
  unfold u_lay at hlay
  rw [if_neg (by rw [hfin]; decide)] at hlay
  have hst := (u_facts hfc hkC (u_lays hts hin hf) hi2).1
  have hfit : narrow (oz_fty ci f) (.int v) = .int v ∧ fits (oz_fty ci f) (.int v) = true := by
    rcases ht with h | ⟨h, hv⟩
    · rw [(hF f hf).1 h]; exact ⟨rfl, rfl⟩
    · rw [(hF f hf).2.1 h]; rcases hv with rfl | rfl <;> exact ⟨rfl, rfl⟩
  have h7 := u_store hfc hkC hkind hlay hi2 (hty f hf) hfit.1 hfit.2
  have hfl : f < (oz_F κ G R ci i).length := by rw [oz_F_len, ← hn]; exact hf
  refine W.putK hx hb (f := fd) ⟨hown, hts _ hlink, ⟨_, _, _, hi2⟩, hst⟩ (by rw [q2]; exact h7) q1 q3 (by rw [hsl]; exact k2_hasslot (q4 f hf)) rfl rfl hdg fun H' e1 e2 e3 => ?_
  rw [hsl] at e1 ⊢
  refine kk H' _ (oz_H_set hH hi e2 e3 ?_ (fun j hj => oz_E_row (oz2_row hj).symm rfl rfl)) (hS.put e2 e3 (Nat.le_add_right _ _))
  rw [oz_ko hk h6]
  refine ⟨_, hc, ?_⟩
  rw [← oz_F_setI (by rw [← hn]; exact hf) ht1]
  exact t_OB.to (V := updV (vp_V (oz_F κ G R ci i)) f (.int v)) ⟨_, e1, q2, q3, t_set q4 hap hf (.int v)⟩ (fun j _ => vp_updV_set hfl _ j)
theorem oz_putR (hx : p.tables.exec = Jvm.exec) (hb : c.code = cc) {x ci f y : Nat} {r : vw_C} (hts : ∀ w ∈ oz_gt, w.before args s = true) (hown : s.vm.findClass own = some m.cls) (hB : oz_B κ s) (hH : oz_H κ N G R J H) (hS : va_S (fun q : Nat => κ.2.2.1 ≤ q) H0 H locs) (hi : i < N) (hk : oz_k i = ci) (hc : vwCl[ci]? = some r) (hf : f < r.2.2)
    (hlink : Cond.fieldLink own x (r.2.1 f).1 (r.2.1 f).2.1 (r.2.1 f).2.2.1 ∈ oz_gt) (ht : oz_t ci f = 1) (hini : meth.name = "<init>") (hro : r.1 = own) (hdg : decode cc pc = .ok (.putfield x, 3))
    (kk : ∀ (H1 : Heap) (locs1 : List Loc), oz_H κ N G (oz2 R i f (some y)) J H1 → va_S (fun q : Nat => κ.2.2.1 ≤ q) H0 H1 locs1 → W p l e Rm s m args below meth c H1 locs1 cells slots Q (F0 m (pc + 3) ls rest)) : W p l e Rm s m args below meth c H locs cells slots Q (F0 m pc ls (.ref (κ.2.2.1 + y) :: .ref (κ.2.2.1 + i) :: rest)) := by
  obtain ⟨h6, hn, hty, hnm, hF⟩ := oz_cls hc
  have hin := oz_lay ci r hc
  have he : (oz_W κ N G R J)[i]? = some (κ.2.2.1 + i, .inr (ci, oz_F κ G R ci i)) := by rw [oz_W_get hi, oz_ko hk h6]
  have hap := va_apart (own := own) hts hin (oz_fty ci) hty hnm hB.1 hc
  obtain ⟨r', h1, cell, q1, q2, q3, q4⟩ := hH.2 i _ he
  have hr : r' = r := Option.some.inj (h1.symm.trans hc)
  subst hr
  obtain ⟨hSl, hfc, kC, hkC, hkind⟩ := hB.1.1 ci _ hc
  obtain ⟨cf, kf, fi, fd, hi2, hsl⟩ := hSl f hf
  have hfin : (r'.2.1 f).2.2.2 = true := by rw [(hF f hf).2.2.2.2.1]; exact decide_eq_true ht
  have hlay := hts _ (hin _ (u_in_lay hf))
  unfold u_lay at hlay
  rw [if_pos hfin] at hlay
  have hst := (u_facts hfc hkC (u_lays hts hin hf) hi2).1
  have hcf : m.cls = cf := by
    obtain ⟨_, _, c', _, _, _, -, -, hf', -, -, -, hown2, -⟩ := Cond.laysFinal_spec hlay
    have e1 : c' = cf := by have := hi2.symm.trans hf'; simp at this; exact this.1.symm
    rw [(hF f hf).2.2.2.2.2, hro] at hown2
    rw [← e1]; exact Option.some.inj (hown.symm.trans hown2)
  have hrf := oz_isR ((hF f hf).2.2.1 ht) (κ.2.2.1 + y)
  have h7 := u_fits hfc hkC hkind (Or.inr hlay) hi2 (hty f hf) hrf.1 hrf.2
  have hfl : f < (oz_F κ G R ci i).length := by rw [oz_F_len, ← hn]; exact hf
  refine W.putFinK hx hb hown (hts _ hlink) hi2 hst hcf hini (by rw [q2]; exact h7) q1 q3 (by rw [hsl]; exact k2_hasslot (q4 f hf)) rfl rfl hdg fun H' e1 e2 e3 => ?_
  rw [hsl] at e1 ⊢
  refine kk H' _ (oz_H_set hH hi e2 e3 ?_ (fun j hj => oz_E_row rfl (oz2_row hj).symm rfl)) (hS.put e2 e3 (Nat.le_add_right _ _))
  rw [oz_ko hk h6]
  refine ⟨_, hc, ?_⟩
  rw [← oz_F_setR (by rw [← hn]; exact hf) ht]
  exact t_OB.to (V := updV (vp_V (oz_F κ G R ci i)) f (.ref (κ.2.2.1 + y))) ⟨_, e1, q2, q3, t_set q4 hap hf (.ref (κ.2.2.1 + y))⟩ (fun j _ => vp_updV_set hfl _ j)
theorem oz_iast (hx : p.tables.exec = Jvm.exec) (hb : c.code = cc) {j : Nat} {v : Int32} (hB : oz_B κ s) (hH : oz_H κ N G R J H) (hS : va_S (fun q : Nat => κ.2.2.1 ≤ q) H0 H locs) (hi : i < N) (hk : oz_k i = 6) (hj : j < oz_l i) (hdg : decode cc pc = .ok (.iastore, 1))
    (kk : ∀ (H1 : Heap) (locs1 : List Loc), oz_H κ N (oz2 G i j v) R J H1 → va_S (fun q : Nat => κ.2.2.1 ≤ q) H0 H1 locs1 → W p l e Rm s m args below meth c H1 locs1 cells slots Q (F0 m (pc + 1) ls rest)) : W p l e Rm s m args below meth c H locs cells slots Q (F0 m pc ls (.int v :: .int (nI j) :: .ref (κ.2.2.1 + i) :: rest)) := by
  have hc : H[κ.2.2.1 + i]? = some (vp_cell κ.2.1.1 (oz_l i, .inl (G i))) := hH.2 i (κ.2.2.1 + i, .inl (κ.2.1.1, oz_l i, .inl (G i))) (by rw [oz_W_get hi, oz_k6 hk])
  have hin : vp_in (nI j) (oz_l i) := vp_in_nI hj (oz_l_lt i)
  have hcl : (nI j).toNatClampNeg = j := nI_clamp (Nat.lt_trans hj (oz_l_lt i))
  refine W.iast hx hb hc ((hB.1.2 0 _ rfl).1 (oz_l i) (fun j => .int (G i j))) (fun q => by cases q) (by show ¬ (_ ∨ (arrV _ _ _).slots.size ≤ _); rw [arrV_size]; exact hin) rfl rfl hdg fun H1 e1 z oq => ?_
  refine kk H1 _ (oz_H_set hH hi z oq ?_ (fun j hj => oz_E_row (oz2_row hj).symm rfl rfl)) (hS.put z oq (Nat.le_add_right _ _))
  rw [oz_k6 hk]
  show H1[_]? = some (vp_cell _ _)
  rw [e1, vp_cell_i, vp_cell_i, arrV_store, hcl]
  congr 2
  funext q
  by_cases hq : q = j
  · subst hq
    simp [updV, oz2_self]
  · simp [updV, hq, oz2_ne hq]
theorem oz_last (hx : p.tables.exec = Jvm.exec) (hb : c.code = cc) {j : Nat} {v : Int64} (hB : oz_B κ s) (hH : oz_H κ N G R J H) (hS : va_S (fun q : Nat => κ.2.2.1 ≤ q) H0 H locs) (hi : i < N) (hk : oz_k i = 7) (hj : j < oz_l i) (hdg : decode cc pc = .ok (.lastore, 1))
    (kk : ∀ (H1 : Heap) (locs1 : List Loc), oz_H κ N G R (oz2 J i j v) H1 → va_S (fun q : Nat => κ.2.2.1 ≤ q) H0 H1 locs1 → W p l e Rm s m args below meth c H1 locs1 cells slots Q (F0 m (pc + 1) ls rest)) : W p l e Rm s m args below meth c H locs cells slots Q (F0 m pc ls (.long v :: .int (nI j) :: .ref (κ.2.2.1 + i) :: rest)) := by
  have hc : H[κ.2.2.1 + i]? = some (vp_cell κ.2.1.2.1 (oz_l i, .inr (.inl (J i)))) := hH.2 i (κ.2.2.1 + i, .inl (κ.2.1.2.1, oz_l i, .inr (.inl (J i)))) (by rw [oz_W_get hi, oz_k7 hk])
  have hin : vp_in (nI j) (oz_l i) := vp_in_nI hj (oz_l_lt i)
  have hcl : (nI j).toNatClampNeg = j := nI_clamp (Nat.lt_trans hj (oz_l_lt i))
  refine W.last hx hb hc ((hB.1.2 1 _ rfl).1 (oz_l i) (fun j => .long (J i j))) (fun q => by cases q) (by show ¬ (_ ∨ (arrV _ _ _).slots.size ≤ _); rw [arrV_size]; exact hin) rfl rfl hdg fun H1 e1 z oq => ?_
  refine kk H1 _ (oz_H_set hH hi z oq ?_ (fun j hj => oz_E_row rfl rfl (oz2_row hj).symm)) (hS.put z oq (Nat.le_add_right _ _))
  rw [oz_k7 hk]
  show H1[_]? = some (vp_cell _ _)
  rw [e1, vp_cell_l, vp_cell_l, arrV_store, hcl]
  congr 2
  funext q
  by_cases hq : q = j
  · subst hq
    simp [updV, oz2_self]
  · simp [updV, hq, oz2_ne hq]
theorem oz_aast (hx : p.tables.exec = Jvm.exec) (hb : c.code = cc) {j y : Nat} (hB : oz_B κ s) (hH : oz_H κ N G R J H) (hS : va_S (fun q : Nat => κ.2.2.1 ≤ q) H0 H locs) (hi : i < N) (hk : oz_k i = 9) (hy : y < N) (hky : oz_k y = 3) (hj : j < oz_l i) (hdg : decode cc pc = .ok (.aastore, 1))
    (kk : ∀ (H1 : Heap) (locs1 : List Loc), oz_H κ N G (oz2 R i j (some y)) J H1 → va_S (fun q : Nat => κ.2.2.1 ≤ q) H0 H1 locs1 → W p l e Rm s m args below meth c H1 locs1 cells slots Q (F0 m (pc + 1) ls rest)) : W p l e Rm s m args below meth c H locs cells slots Q (F0 m pc ls (.ref (κ.2.2.1 + y) :: .int (nI j) :: .ref (κ.2.2.1 + i) :: rest)) := by
  have hc : H[κ.2.2.1 + i]? = some (vp_cell κ.2.1.2.2.2 (oz_l i, .inr (.inr (.inr (.inr (fun j => (R i j).map (fun y => κ.2.2.1 + y))))))) := hH.2 i (κ.2.2.1 + i, .inl (κ.2.1.2.2.2, oz_l i, .inr (.inr (.inr (.inr (fun j => (R i j).map (fun y => κ.2.2.1 + y))))))) (by rw [oz_W_get hi, oz_k9 hk])
  have hin : vp_in (nI j) (oz_l i) := vp_in_nI hj (oz_l_lt i)
  have hcl : (nI j).toNatClampNeg = j := nI_clamp (Nat.lt_trans hj (oz_l_lt i))
  have hnn : ¬ nI j < 0 := fun q => hin (Or.inl q)
  obtain ⟨r', hr', cellV, g1, g2, g3, -⟩ := hH.2 y _ (by rw [oz_W_get hy, oz_ko hky (by decide)])
  have hcls := (hB.1.1 3 (RX4, TX4, 8) rfl).2
  obtain ⟨kA, comp, k1, k2, k3, -⟩ := (hB.1.2 3 (κ.2.1.2.2.2, .object RX4) rfl).2
  have hcomp : comp = κ.1.1 3 := Option.some.inj (k3.symm.trans hcls.1)
  subst hcomp
  obtain ⟨kC, hkC, -⟩ := hcls.2
  refine W.aast hx hb hc (fun q h => by cases h) (fun h => by cases h) k1 k2 rfl hkC ⟨hnn, by show _ < (arrV _ _ _).slots.size; rw [arrV_size, hcl]; exact hj⟩ g1 (fun q h => by rw [g3] at h; cases h) (by rw [g2]; exact hkC) (by rw [g2]; exact va_assign hcls) rfl rfl hdg fun H1 e1 z oq => ?_
  refine kk H1 _ (oz_H_set hH hi z oq ?_ (fun j hj => oz_E_row rfl (oz2_row hj).symm rfl)) (hS.put z oq (Nat.le_add_right _ _))
  rw [oz_k9 hk]
  show H1[_]? = some (vp_cell _ _)
  rw [e1, vp_cell_q, vp_cell_q, arrV_store, hcl]
  congr 2
  funext q
  by_cases hq : q = j
  · subst hq
    simp [updV, oz2_self, va_rf]
  · simp [updV, hq, oz2_ne hq]
theorem oz_newO (hx : p.tables.exec = Jvm.exec) (hb : c.code = cc) {x ci : Nat} {r : vw_C} (hts : ∀ w ∈ oz_gt, w.before args s = true) (hown : s.vm.findClass own = some m.cls) (hB : oz_B κ s) (hH : oz_H κ N G R J H) (hS : va_S (fun q : Nat => κ.2.2.1 ≤ q) H0 H locs) (hc : vwCl[ci]? = some r) (hcl : Cond.classLink own x r.1 ∈ oz_gt) (hins : Cond.instantiable r.1 r.2.2 ∈ oz_gt) (hini : Cond.initialized r.1 ∈ oz_gt) (hkN : oz_k N = ci)
    (hcells : cells + 1 ≤ Rm.cells) (hslots : slots + r.2.2 ≤ Rm.slots) (hdg : decode cc pc = .ok (.new x, 3))
    (kk : ∀ H1 : Heap, oz_H κ (N + 1) (ozz G N 0) (ozz R N none) J H1 → va_S (fun q : Nat => κ.2.2.1 ≤ q) H0 H1 locs → W p l e Rm s m args below meth c H1 locs (cells + 1) (slots + r.2.2) Q (F0 m (pc + 3) ls (.ref (κ.2.2.1 + N) :: rest))) : W p l e Rm s m args below meth c H locs cells slots Q (F0 m pc ls rest) := by
  obtain ⟨h6, hn, hty, hnm, hF⟩ := oz_cls hc
  have hin := oz_lay ci r hc
  have hKn := hB.1.1 ci _ hc
  refine W.newcK hx hb hown (hts _ hcl) (hts _ hins) (hts _ hini) rfl hdg hcells hslots hKn.2.1 hH.1 fun H1 kC hkC e1 z1 o1 => ?_
  have z2 : H1.size = H.size + 1 := by rw [z1, hH.1]
  have o2 : ∀ q : Nat, q < H.size → H1[q]? = H[q]? := fun q hq => o1 q (by rw [← hH.1]; exact hq)
  refine kk H1 (oz_H_push hH z2 o2 ?_ (fun j hj => oz_E_row (ozz_row (by omega)).symm (ozz_row (by omega)).symm rfl)) (oz_S_push hS z2 o2)
  rw [oz_ko hkN h6]
  refine ⟨_, hc, (u_born (oz_fty ci) hts hin hKn hkC e1 hty).to (fun k hk => ?_)⟩
  have hk2 : k < oz_n ci := by rw [← hn]; exact hk
  show defaultValue (oz_fty ci k) = (oz_F κ (ozz G N 0) (ozz R N none) ci N).getD k .null
  rw [List.getD_eq_getElem?_getD, oz_F_get hk2, ozz_self, ozz_self]
  rcases (hF k hk).2.2.2.1 with h | h | h
  · rw [(hF k hk).1 h, h]; rfl
  · have h8 := (hF k hk).2.2.1 h
    rw [h]
    revert h8
    cases oz_fty ci k <;> intro h8 <;> first | rfl | (cases h8; done)
  · rw [(hF k hk).2.1 h, h]; rfl
theorem oz_newI (hx : p.tables.exec = Jvm.exec) (hb : c.code = cc) {at0 : ArrayType} {n : Nat} (hts : ∀ w ∈ oz_gt, w.before args s = true) (hB : oz_B κ s) (hH : oz_H κ N G R J H) (hS : va_S (fun q : Nat => κ.2.2.1 ≤ q) H0 H locs) (hat : at0 = .int ∧ oz_k N = 6) (hn : oz_l N = n) (hn2 : n * 4 ≤ 536870912)
    (hcells : cells + 1 ≤ Rm.cells) (hslots : slots + n ≤ Rm.slots) (hdg : decode cc pc = .ok (.newarray at0, 2))
    (kk : ∀ H1 : Heap, oz_H κ (N + 1) (ozz G N 0) R J H1 → va_S (fun q : Nat => κ.2.2.1 ≤ q) H0 H1 locs → W p l e Rm s m args below meth c H1 locs (cells + 1) (slots + n) Q (F0 m (pc + 2) ls (.ref (κ.2.2.1 + N) :: rest))) : W p l e Rm s m args below meth c H locs cells slots Q (F0 m pc ls (.int (nI n) :: rest)) := by
  have hb31 : n < 2 ^ 31 := by rw [← hn]; exact oz_l_lt N
  have harr : Cond.arrayClass (newarray.typeOf at0) ∈ oz_gt := by
    obtain ⟨rfl, -⟩ := hat
    exact oz_arrI
  refine va_newaK hx hb (hts _ harr) rfl hdg rfl (nI_pos hb31) (nI_clamp hb31) ?_ hcells hslots hH.1 fun H1 cA e1 z1 o1 hAr hNm => ?_
  · obtain ⟨rfl, -⟩ := hat
    show n * _ ≤ _
    simp [newarray.typeOf, componentBytes]; omega
  have z2 : H1.size = H.size + 1 := by rw [z1, hH.1]
  have o2 : ∀ q : Nat, q < H.size → H1[q]? = H[q]? := fun q hq => o1 q (by rw [← hH.1]; exact hq)
  refine kk H1 (oz_H_push hH z2 o2 ?_ (fun j hj => oz_E_row (ozz_row (by omega)).symm rfl rfl)) (oz_S_push hS z2 o2)
  have hz : ozz G N 0 N = fun _ => (0 : Int32) := by funext q; exact ozz_self
  obtain ⟨rfl, hk⟩ := hat
  rw [oz_k6 hk, hn, hz]
  have hcA : cA = κ.2.1.1 := Option.some.inj (hNm.symm.trans (hB.1.2 0 _ rfl).2)
  rw [← hcA]
  exact e1
theorem oz_newJ (hx : p.tables.exec = Jvm.exec) (hb : c.code = cc) {n : Nat} (hts : ∀ w ∈ oz_gt, w.before args s = true) (hB : oz_B κ s) (hH : oz_H κ N G R J H) (hS : va_S (fun q : Nat => κ.2.2.1 ≤ q) H0 H locs) (hk : oz_k N = 7) (hn : oz_l N = n) (hn2 : n * 8 ≤ 536870912)
    (hcells : cells + 1 ≤ Rm.cells) (hslots : slots + n ≤ Rm.slots) (hdg : decode cc pc = .ok (.newarray .long, 2))
    (kk : ∀ H1 : Heap, oz_H κ (N + 1) G R (ozz J N 0) H1 → va_S (fun q : Nat => κ.2.2.1 ≤ q) H0 H1 locs → W p l e Rm s m args below meth c H1 locs (cells + 1) (slots + n) Q (F0 m (pc + 2) ls (.ref (κ.2.2.1 + N) :: rest))) : W p l e Rm s m args below meth c H locs cells slots Q (F0 m pc ls (.int (nI n) :: rest)) := by
  have hb31 : n < 2 ^ 31 := by rw [← hn]; exact oz_l_lt N
  refine va_newaK (atype := .long) hx hb (hts _ oz_arrJ) rfl hdg rfl (nI_pos hb31) (nI_clamp hb31) ?_ hcells hslots hH.1 fun H1 cA e1 z1 o1 hAr hNm => ?_
  · show n * _ ≤ _; simp [newarray.typeOf, componentBytes]; omega
  have z2 : H1.size = H.size + 1 := by rw [z1, hH.1]
  have o2 : ∀ q : Nat, q < H.size → H1[q]? = H[q]? := fun q hq => o1 q (by rw [← hH.1]; exact hq)
  refine kk H1 (oz_H_push hH z2 o2 ?_ (fun j hj => oz_E_row rfl rfl (ozz_row (by omega)).symm)) (oz_S_push hS z2 o2)
  have hz : ozz J N 0 N = fun _ => (0 : Int64) := by funext q; exact ozz_self
  rw [oz_k7 hk, hn, hz]
  have hcA : cA = κ.2.1.2.1 := Option.some.inj (hNm.symm.trans (hB.1.2 1 _ rfl).2)
  rw [← hcA]
  exact e1
theorem oz_newR (hx : p.tables.exec = Jvm.exec) (hb : c.code = cc) {x n : Nat} (hts : ∀ w ∈ oz_gt, w.before args s = true) (hown : s.vm.findClass own = some m.cls) (hB : oz_B κ s) (hH : oz_H κ N G R J H) (hS : va_S (fun q : Nat => κ.2.2.1 ≤ q) H0 H locs) (hcl : Cond.classLink own x RX4 ∈ oz_gt) (hk : oz_k N = 9) (hn : oz_l N = n) (hn2 : n * 4 ≤ 536870912)
    (hcells : cells + 1 ≤ Rm.cells) (hslots : slots + n ≤ Rm.slots) (hdg : decode cc pc = .ok (.anewarray x, 3))
    (kk : ∀ H1 : Heap, oz_H κ (N + 1) G (ozz R N none) J H1 → va_S (fun q : Nat => κ.2.2.1 ≤ q) H0 H1 locs → W p l e Rm s m args below meth c H1 locs (cells + 1) (slots + n) Q (F0 m (pc + 3) ls (.ref (κ.2.2.1 + N) :: rest))) : W p l e Rm s m args below meth c H locs cells slots Q (F0 m pc ls (.int (nI n) :: rest)) := by
  have hb31 : n < 2 ^ 31 := by rw [← hn]; exact oz_l_lt N
  have hcn : (nI n).toNatClampNeg = n := nI_clamp hb31
  refine W.anew hx hb hown (hts _ hcl) (va_AO.use hB.2.1) rfl hdg rfl (nI_pos hb31) (by rw [hcn]; exact hn2) hcells (by rw [hcn]; exact hslots) fun cA kA comp f1 f2 f3 f4 => ?_
  rw [hcn, hH.1]
  generalize hH1 : H.push ({ cls := cA, slots := Array.replicate n .null, vm := .none } : Cell) = H1
  have z2 : H1.size = H.size + 1 := by rw [← hH1, Array.size_push]
  have e1 : H1[H.size]? = some (arrV cA n (fun _ => .null)) := by rw [← hH1, Array.getElem?_push_size, ← arrV_new]
  have o2 : ∀ q : Nat, q < H.size → H1[q]? = H[q]? := fun q hq => by rw [← hH1, Array.getElem?_push, if_neg (Nat.ne_of_lt hq)]
  refine kk H1 (oz_H_push hH z2 o2 ?_ (fun j hj => oz_E_row rfl (ozz_row (by omega)).symm rfl)) (oz_S_push hS z2 o2)
  have hz : (fun j => (ozz R N none N j).map (fun y => κ.2.2.1 + y)) = fun _ => (none : Option Nat) := by funext q; rw [ozz_self]; rfl
  rw [oz_k9 hk, hn, hz]
  obtain ⟨kA2, comp2, -, -, -, k4⟩ := (hB.1.2 3 (κ.2.1.2.2.2, .object RX4) rfl).2
  have hcA : cA = κ.2.1.2.2.2 := Option.some.inj (f1.symm.trans k4)
  rw [← hcA]
  show H1[_]? = some (vp_cell _ _)
  rw [vp_cell_q, ← hH.1]
  exact e1
end OZW
