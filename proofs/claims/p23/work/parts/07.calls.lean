/-! OWN LAYER, part 6: calls by contract -/
theorem oz_good (y : MethodName) (cc : ByteArray) (maxL : Nat) (ret : Option FieldType) (h : Cond.code y cc maxL ret ∈ oz_gt) : GoodIn oz_gt (oz_ws y cc maxL ret) := by
  intro w hw
  have hm : w ∈ oz_gt := by
    rcases List.mem_cons.mp hw with rfl | h2
    · exact h
    · exact h2
  exact ⟨hm, good_of_word (List.mem_filter.mp hm).2⟩
/-- a method's word speaks of a receiver of its class -/
def oz_rec (S : oz_S) (nb ci n : Nat) : Prop := ∀ (Φ : oz_C) (a : List Value) (N : Nat) (G : oz_G) (R : oz_R) (J : oz_J), nb ≤ N → S a N G R J Φ → a.length = n + 1 → ∃ b as, a = .ref b :: as ∧ oz_k b = ci ∧ b < N
section OZC
variable {p : Program} {l : Launch} {e : Env} {Rm : Room} {s : State} {m : MethodId} {args : Array Value} {below : List Frame} {meth : Method} {c : Code} {Q : State → Prop}
variable {κ : oz_K} {N0 nL K0 nb : Nat} {cc : ByteArray} {own : String}
variable {H : Heap} {locs : List Loc} {cells slots : Nat} {pc : Nat} {ls : Array Slot} {st0 rest : List Value} {a : Array Value} {N : Nat}
theorem oz_ret {K' : Nat} {Φ1 : oz_C} (hr : va_Run p l e Rm s m args below meth c H locs cells slots K' K' (F0 m pc ls st0) rest (oz_Q κ N Φ1 a) (fun q : Nat => κ.2.2.1 ≤ q)) (hS : va_S (fun q : Nat => κ.2.2.1 ≤ q) s.heap H locs)
    (kk : ∀ (r : Option Value) (N' : Nat) (G' : oz_G) (R' : oz_R) (J' : oz_J) (H1 : Heap) (locs1 : List Loc), Φ1 r N' G' R' J' → N ≤ N' → oz_H κ N' G' R' J' H1 → va_S (fun q : Nat => κ.2.2.1 ≤ q) s.heap H1 locs1 → W p l e Rm s m args below meth c H1 locs1 (cells + K') (slots + K') Q (F0 m (pc + 3) ls ((r.map (oz_v κ)).toList ++ rest))) : W p l e Rm s m args below meth c H locs cells slots Q (F0 m pc ls st0) := by
  intro T hT X
  obtain ⟨v, st₀, t, T', L, h0, X', hL, e1, e2, ⟨⟨r, N', G', R', J', hv, hΦ, hN, hH⟩, hz, hk⟩, st⟩ := hr T hT X
  cases hv
  rw [h0] at hz hk
  obtain ⟨t2, a1, b1⟩ := kk r N' G' R' J' T'.heap (locs ++ L) hΦ hN (by rw [e1]; exact hH)
    ⟨Nat.le_trans hS.1 (by rw [e1]; exact hz), fun q h1 h2 => by rw [e1, hk q (Nat.lt_of_lt_of_le h1 hS.1) h2]; exact hS.2.1 q h1 h2, fun q hq => by
      rcases List.mem_append.mp hq with h | h
      · exact hS.2.2 q h
      · exact hL q h⟩ T' rfl X'
  exact ⟨t2, st t2 a1, b1⟩
theorem oz_stk (κ : oz_K) (r : Option Value) (rest : List Value) : (r.map (oz_v κ)).toList ++ rest.map (oz_v κ) = (r.toList ++ rest).map (oz_v κ) := by cases r <;> rfl
theorem oz_cats (κ : oz_K) (rest : List Value) : ((rest.map (oz_v κ)).map fun v => v.category).sum = oz_cat rest := by
  unfold oz_cat
  rw [List.map_map]
  congr 1
  apply List.map_congr_left
  intro v _
  exact oz_v_cat κ v
theorem oz_rmok {fr maxL' : Nat} (hR : fr + 1 ≤ Rm.frames ∧ 40 * (fr + 1) ≤ Rm.locals) (hm : maxL' ≤ 21) (K' : Nat) : (oz_rm fr K').frames + 1 ≤ Rm.frames ∧ 8 + (maxL' + 11) + (oz_rm fr K').locals ≤ Rm.locals := by
  refine ⟨hR.1, ?_⟩
  show 8 + (maxL' + 11) + 40 * fr ≤ _
  omega
theorem oz_blind {κ : oz_K} {N : Nat} {G : oz_G} {R : oz_R} {J : oz_J} {av : List Value} : FrameBlind (va_Pc av (fun U => oz_H κ N G R J U.heap ∧ oz_B κ U)) := fun _ _ _ _ q => ⟨q.1, q.2.1, oz_B.same rfl q.2.2⟩
theorem oz_cs {y : MethodName} {cc' : ByteArray} {maxL' nb' fr' K' idx n : Nat} {ret : Option FieldType} {S : oz_S} (hM : oz_M l y cc' maxL' ret nb' fr' K' S) (cx : oz_cx κ N0 nb p s m args c cc nL own) (hnb : nb' ≤ nb) (hlink : Cond.methodLink own idx y ∈ oz_gt) (hstat : Cond.static y ∈ oz_gt) (hini : Cond.initialized y.cls ∈ oz_gt) (hcode : Cond.code y cc' maxL' ret ∈ oz_gt)
    (hd : y.cls ≠ "java/lang/invoke/MethodHandle" ∧ y.cls ≠ "java/lang/invoke/VarHandle" ∧ (parseMethodDescriptor y.desc).map (fun d => d.parameters.length) = some n) (hR : fr' + 1 ≤ Rm.frames ∧ 40 * (fr' + 1) ≤ Rm.locals) (hm : maxL' ≤ 21) (hK : K0 ≤ Rm.cells ∧ K0 ≤ Rm.slots) : oz_CO κ N0 nL K0 p l e Rm s m args below meth c Q cc (idx, 0, n, K', S) := by
  obtain ⟨hx, hb, hml, hown, hts, hB, hnb0⟩ := cx
  intro Φ1 pc L a rest N G R J k hN hlen hdec hcat hroom hS hcont h1 h2 H lo ce sl ls h3 h4 h5 h6 h7
  have hMet := hM κ Φ1 a N G R J (by omega) hS
  have hroom : k + K' ≤ K0 := hroom
  have hlen : a.length = n := hlen
  have hr := va_runS (e := e) (below := below) (meth := meth) (H := H) (locs := lo) (cells := ce) (slots := sl) (As := a.map (oz_v κ)) (rest := rest.map (oz_v κ)) (g := F0 m pc ls ((a.reverse ++ rest).map (oz_v κ))) ⟨hx, hb, hml, hown, hts⟩ hMet (R := Rm) (own := own) (index := idx) (n := n) (mc := K') (ms := K')
    ⟨callB_of n hts (oz_good y cc' maxL' ret hcode) rfl rfl rfl (hts _ hini) (hts _ hlink) hd (oz_rmok hR hm K'), hts _ hstat⟩ ⟨oz_blind, fun U hU hW => ⟨rfl, by rw [hU]; exact h5, oz_B.moved hW hB⟩⟩ rfl (by rw [List.length_map]; exact hlen) (by rw [← h7.1]) (by simp) (by show 2 * 0 + _ ≤ _; rw [oz_cats]; omega) hdec ⟨by omega, by omega⟩
  refine oz_ret hr h6 (fun r N' G' R' J' H1 lo1 hΦ hN' hH1 hS1 => ?_)
  rw [oz_stk]
  exact hcont r N' G' R' J' hΦ (by omega) hroom H1 lo1 _ _ ls (by show ce + K' ≤ k + K'; omega) (by show sl + K' ≤ k + K'; omega) hH1 hS1 h7
theorem oz_cv {y : MethodName} {cc' : ByteArray} {maxL' nb' fr' K' idx n ci : Nat} {r0 : vw_C} {ret : Option FieldType} {S : oz_S} (hM : oz_M l y cc' maxL' ret nb' fr' K' S) (cx : oz_cx κ N0 nb p s m args c cc nL own) (hnb : nb' ≤ nb) (hlink : Cond.methodLink own idx y ∈ oz_gt) (hinst : Cond.instanceMethod y ∈ oz_gt) (hsel : Cond.selects y.cls y y ∈ oz_gt) (hini : Cond.initialized y.cls ∈ oz_gt) (hcode : Cond.code y cc' maxL' ret ∈ oz_gt)
    (hrec : oz_rec S nb' ci n) (hci : vwCl[ci]? = some r0) (hr0 : r0.1 = y.cls)
    (hd : y.cls ≠ "java/lang/invoke/MethodHandle" ∧ y.cls ≠ "java/lang/invoke/VarHandle" ∧ (parseMethodDescriptor y.desc).map (fun d => d.parameters.length) = some n) (hR : fr' + 1 ≤ Rm.frames ∧ 40 * (fr' + 1) ≤ Rm.locals) (hm : maxL' ≤ 21) (hK : K0 ≤ Rm.cells ∧ K0 ≤ Rm.slots) : oz_CO κ N0 nL K0 p l e Rm s m args below meth c Q cc (idx, 1, n + 1, K', S) := by
  obtain ⟨hx, hb, hml, hown, hts, hB, hnb0⟩ := cx
  intro Φ1 pc L a rest N G R J k hN hlen hdec hcat hroom hS hcont h1 h2 H lo ce sl ls h3 h4 h5 h6 h7
  have hMet := hM κ Φ1 a N G R J (by omega) hS
  have hroom : k + K' ≤ K0 := hroom
  have hlen : a.length = n + 1 := hlen
  obtain ⟨b, as, rfl, hkb, hbN⟩ := hrec Φ1 a N G R J (by omega) hS hlen
  have hlen2 : as.length = n := by simpa using hlen
  have he : (oz_W κ N G R J)[b]? = some (κ.2.2.1 + b, .inr (ci, oz_F κ G R ci b)) := by rw [oz_W_get hbN, oz_ko hkb (oz_cls hci).1]
  have hcell := va_recv (s := s) hB.1 h5.2 hci he
  rw [hr0] at hcell
  have hr := va_runV (e := e) (below := below) (meth := meth) (H := H) (locs := lo) (cells := ce) (slots := sl) (C := y.cls) (b := κ.2.2.1 + b) (As := as.map (oz_v κ)) (rest := rest.map (oz_v κ)) (g := F0 m pc ls (((Value.ref b :: as).reverse ++ rest).map (oz_v κ))) ⟨hx, hb, hml, hown, hts⟩ hMet (R := Rm) (own := own) (index := idx) (n := n) (mc := K') (ms := K')
    ⟨callB_of n hts (oz_good y cc' maxL' ret hcode) rfl rfl rfl (hts _ hini) (hts _ hlink) hd (oz_rmok hR hm K'), hts _ hinst, hts _ hsel⟩ ⟨oz_blind, hcell, fun U hU hW => ⟨rfl, by rw [hU]; exact h5, oz_B.moved hW hB⟩⟩ rfl (by rw [List.length_map]; exact hlen2) (by rw [← h7.1]) (by simp [oz_v]) (by show 2 * 0 + _ ≤ _; rw [oz_cats]; omega) hdec ⟨by omega, by omega⟩
  refine oz_ret hr h6 (fun r N' G' R' J' H1 lo1 hΦ hN' hH1 hS1 => ?_)
  rw [oz_stk]
  exact hcont r N' G' R' J' hΦ (by omega) hroom H1 lo1 _ _ ls (by show ce + K' ≤ k + K'; omega) (by show sl + K' ≤ k + K'; omega) hH1 hS1 h7
theorem oz_ci {y : MethodName} {cc' : ByteArray} {maxL' nb' fr' K' idx n ci : Nat} {S : oz_S} (hM : oz_M l y cc' maxL' none nb' fr' K' S) (cx : oz_cx κ N0 nb p s m args c cc nL own) (hnb : nb' ≤ nb) (hlink : Cond.methodLink own idx y ∈ oz_gt) (hinst : Cond.instanceMethod y ∈ oz_gt) (hini : Cond.initialized y.cls ∈ oz_gt) (hcode : Cond.code y cc' maxL' none ∈ oz_gt) (hy1 : y.name = "<init>")
    (hrec : oz_rec S nb' ci n)
    (hd : y.cls ≠ "java/lang/invoke/MethodHandle" ∧ y.cls ≠ "java/lang/invoke/VarHandle" ∧ (parseMethodDescriptor y.desc).map (fun d => d.parameters.length) = some n) (hR : fr' + 1 ≤ Rm.frames ∧ 40 * (fr' + 1) ≤ Rm.locals) (hm : maxL' ≤ 21) (hK : K0 ≤ Rm.cells ∧ K0 ≤ Rm.slots) : oz_CO κ N0 nL K0 p l e Rm s m args below meth c Q cc (idx, 2, n + 1, K', S) := by
  obtain ⟨hx, hb, hml, hown, hts, hB, hnb0⟩ := cx
  intro Φ1 pc L a rest N G R J k hN hlen hdec hcat hroom hS hcont h1 h2 H lo ce sl ls h3 h4 h5 h6 h7
  have hMet := hM κ Φ1 a N G R J (by omega) hS
  have hroom : k + K' ≤ K0 := hroom
  have hlen : a.length = n + 1 := hlen
  obtain ⟨b, as, rfl, hkb, hbN⟩ := hrec Φ1 a N G R J (by omega) hS hlen
  have hlen2 : as.length = n := by simpa using hlen
  have hr := va_runI (e := e) (below := below) (meth := meth) (H := H) (locs := lo) (cells := ce) (slots := sl) (b := κ.2.2.1 + b) (As := as.map (oz_v κ)) (rest := rest.map (oz_v κ)) (g := F0 m pc ls (((Value.ref b :: as).reverse ++ rest).map (oz_v κ))) ⟨hx, hb, hml, hown, hts⟩ hMet (R := Rm) (own := own) (index := idx) (n := n) (mc := K') (ms := K')
    ⟨callB_of n hts (oz_good y cc' maxL' none hcode) rfl rfl rfl (hts _ hini) (hts _ hlink) hd (oz_rmok hR hm K'), hy1, hts _ hinst⟩ ⟨oz_blind, fun U hU hW => ⟨rfl, by rw [hU]; exact h5, oz_B.moved hW hB⟩⟩ rfl (by rw [List.length_map]; exact hlen2) (by rw [← h7.1]) (by simp [oz_v]) (by show 2 * 0 + _ ≤ _; rw [oz_cats]; omega) hdec ⟨by omega, by omega⟩
  refine oz_ret hr h6 (fun r N' G' R' J' H1 lo1 hΦ hN' hH1 hS1 => ?_)
  rw [oz_stk]
  exact hcont r N' G' R' J' hΦ (by omega) hroom H1 lo1 _ _ ls (by show ce + K' ≤ k + K'; omega) (by show sl + K' ≤ k + K'; omega) hH1 hS1 h7
theorem oz_cin {y : MethodName} {host : String} {cc' : ByteArray} {maxL' nb' fr' K' idx n ci : Nat} {S : oz_S} (hM : oz_M l y cc' maxL' none nb' fr' K' S) (cx : oz_cx κ N0 nb p s m args c cc nL own) (hnb : nb' ≤ nb) (hlink : oz_B κ s → va_Nw (.methodLinkNest own idx y host) s) (hinst : Cond.instanceMethod y ∈ oz_gt) (hini : Cond.initialized y.cls ∈ oz_gt) (hcode : Cond.code y cc' maxL' none ∈ oz_gt) (hy1 : y.name = "<init>")
    (hrec : oz_rec S nb' ci n)
    (hd : y.cls ≠ "java/lang/invoke/MethodHandle" ∧ y.cls ≠ "java/lang/invoke/VarHandle" ∧ (parseMethodDescriptor y.desc).map (fun d => d.parameters.length) = some n) (hR : fr' + 1 ≤ Rm.frames ∧ 40 * (fr' + 1) ≤ Rm.locals) (hm : maxL' ≤ 21) (hK : K0 ≤ Rm.cells ∧ K0 ≤ Rm.slots) : oz_CO κ N0 nL K0 p l e Rm s m args below meth c Q cc (idx, 2, n + 1, K', S) := by
  obtain ⟨hx, hb, hml, hown, hts, hB, hnb0⟩ := cx
  intro Φ1 pc L a rest N G R J k hN hlen hdec hcat hroom hS hcont h1 h2 H lo ce sl ls h3 h4 h5 h6 h7
  have hMet := hM κ Φ1 a N G R J (by omega) hS
  have hroom : k + K' ≤ K0 := hroom
  have hlen : a.length = n + 1 := hlen
  obtain ⟨b, as, rfl, hkb, hbN⟩ := hrec Φ1 a N G R J (by omega) hS hlen
  have hlen2 : as.length = n := by simpa using hlen
  have hr := va_runIN (e := e) (below := below) (meth := meth) (H := H) (locs := lo) (cells := ce) (slots := sl) (b := κ.2.2.1 + b) (As := as.map (oz_v κ)) (rest := rest.map (oz_v κ)) (g := F0 m pc ls (((Value.ref b :: as).reverse ++ rest).map (oz_v κ))) (host := host) ⟨hx, hb, hml, hown, hts⟩ hMet (R := Rm) (own := own) (index := idx) (n := n) (mc := K') (ms := K')
    ⟨va_cnB n hts (oz_good y cc' maxL' none hcode) rfl rfl rfl (hlink hB) (hts _ hini) hd (oz_rmok hR hm K'), hy1, hts _ hinst⟩ ⟨oz_blind, fun U hU hW => ⟨rfl, by rw [hU]; exact h5, oz_B.moved hW hB⟩⟩ rfl (by rw [List.length_map]; exact hlen2) (by rw [← h7.1]) (by simp [oz_v]) (by show 2 * 0 + _ ≤ _; rw [oz_cats]; omega) hdec ⟨by omega, by omega⟩
  refine oz_ret hr h6 (fun r N' G' R' J' H1 lo1 hΦ hN' hH1 hS1 => ?_)
  rw [oz_stk]
  exact hcont r N' G' R' J' hΦ (by omega) hroom H1 lo1 _ _ ls (by show ce + K' ≤ k + K'; omega) (by show sl + K' ≤ k + K'; omega) hH1 hS1 h7
/-! three of the JDK's own, and Object's constructor -/
def oz_Sobj : oz_S := fun a N G R J Φ => match a with
  | [.ref _] => Φ none N G R J
  | _ => False
def oz_Smax : oz_S := fun a N G R J Φ => match a with
  | [.int x, .int y] => Φ (some (.int (if x < y then y else x))) N G R J
  | _ => False
def oz_Smin : oz_S := fun a N G R J Φ => match a with
  | [.int x, .int y] => Φ (some (.int (if y < x then y else x))) N G R J
  | _ => False
def oz_cpy (G : oz_G) (a b n : Nat) : oz_G := fun i => if i = b then (fun j => if j < n then G a j else G b j) else G i
def oz_Scpy : oz_S := fun a N G R J Φ => match a with
  | [.ref i, .int x, .ref j, .int y, .int w] => ∃ n, (x = nI 0 ∧ y = nI 0 ∧ w = nI n) ∧ (oz_k i = 6 ∧ i < N ∧ oz_k j = 6 ∧ j < N ∧ n ≤ oz_l i ∧ n ≤ oz_l j) ∧ Φ none N (oz_cpy G i j n) R J
  | _ => False
theorem oz_cobj {idx : Nat} (cx : oz_cx κ N0 nb p s m args c cc nL own) (hlink : Cond.methodLink own idx objectInit ∈ oz_gt) (hinst : Cond.instanceMethod objectInit ∈ oz_gt) (hcode : Cond.code objectInit ⟨#[0xb1]⟩ 1 none ∈ oz_gt) (hR : 1 ≤ Rm.frames ∧ 30 ≤ Rm.locals) : oz_CO κ N0 nL K0 p l e Rm s m args below meth c Q cc (idx, 2, 1, 0, oz_Sobj) := by
  obtain ⟨hx, hb, hml, hown, hts, hB, hnb0⟩ := cx
  intro Φ1 pc L a rest N G R J k hN hlen hdec hcat hroom hS hcont
  rcases a with _ | ⟨v, _ | ⟨w, a⟩⟩
  · cases hlen
  · cases v with
    | ref b =>
      have hcat : oz_cat rest ≤ 8 := hcat
      refine oz_go (hcont none N G R J hS) (fun H lo ce sl ls hH hX hS1 kk => ?_)
      refine W.objInit (rest := rest.map (oz_v κ)) hx hb hown (hts _ hlink) (hts _ hinst) (hts _ hcode) rfl (by rw [hml]; exact hX.1) rfl hdec hR.1 ?_ kk
      show 2 * 0 + _ + 12 ≤ _
      rw [oz_cats]; omega
    | _ => exact False.elim hS
  · cases hlen
theorem oz_cmax {idx : Nat} (cx : oz_cx κ N0 nb p s m args c cc nL own) (hlink : Cond.methodLink own idx Lib.Math.max.name ∈ oz_gt) (hstat : Cond.static Lib.Math.max.name ∈ oz_gt) (hini : Cond.initialized "java/lang/Math" ∈ oz_gt) (hcode : Cond.code Lib.Math.max.name Lib.Math.max.code 2 (some .int) ∈ oz_gt) (hR : 1 ≤ Rm.frames ∧ 30 ≤ Rm.locals) (hK : K0 ≤ Rm.cells ∧ K0 ≤ Rm.slots) : oz_CO κ N0 nL K0 p l e Rm s m args below meth c Q cc (idx, 0, 2, 0, oz_Smax) := by
  obtain ⟨hx, hb, hml, hown, hts, hB, hnb0⟩ := cx
  intro Φ1 pc L a rest N G R J k hN hlen hdec hcat hroom hS hcont h1 h2 H lo ce sl ls h3 h4 h5 h6 h7
  rcases a with _ | ⟨v, _ | ⟨w, _ | ⟨u, a⟩⟩⟩
  · cases hlen
  · cases hlen
  · cases v with
    | int x =>
      cases w with
      | int y =>
        have hcat : oz_cat rest ≤ 8 := hcat
        refine va_mmax (rest := rest.map (oz_v κ)) hx hb (by rw [hml, h7.1]) hown (hts _ hlink) (hts _ hstat) (hts _ hini) (hts _ hcode) hR.1 (by rw [oz_cats]; omega) (by omega) (by omega) hdec ?_
        exact hcont _ N G R J hS h1 h2 H lo ce sl ls h3 h4 h5 h6 h7
      | _ => exact False.elim hS
    | _ => exact False.elim hS
  · cases hlen
theorem oz_cmin {idx : Nat} (cx : oz_cx κ N0 nb p s m args c cc nL own) (hlink : Cond.methodLink own idx Lib.Math.min.name ∈ oz_gt) (hstat : Cond.static Lib.Math.min.name ∈ oz_gt) (hini : Cond.initialized "java/lang/Math" ∈ oz_gt) (hcode : Cond.code Lib.Math.min.name Lib.Math.min.code 2 (some .int) ∈ oz_gt) (hR : 1 ≤ Rm.frames ∧ 30 ≤ Rm.locals) (hK : K0 ≤ Rm.cells ∧ K0 ≤ Rm.slots) : oz_CO κ N0 nL K0 p l e Rm s m args below meth c Q cc (idx, 0, 2, 0, oz_Smin) := by
  obtain ⟨hx, hb, hml, hown, hts, hB, hnb0⟩ := cx
  intro Φ1 pc L a rest N G R J k hN hlen hdec hcat hroom hS hcont h1 h2 H lo ce sl ls h3 h4 h5 h6 h7
  rcases a with _ | ⟨v, _ | ⟨w, _ | ⟨u, a⟩⟩⟩
  · cases hlen
  · cases hlen
  · cases v with
    | int x =>
      cases w with
      | int y =>
        have hcat : oz_cat rest ≤ 8 := hcat
        refine va_mmin (rest := rest.map (oz_v κ)) hx hb (by rw [hml, h7.1]) hown (hts _ hlink) (hts _ hstat) (hts _ hini) (hts _ hcode) hR.1 (by rw [oz_cats]; omega) (by omega) (by omega) hdec ?_
        exact hcont _ N G R J hS h1 h2 H lo ce sl ls h3 h4 h5 h6 h7
      | _ => exact False.elim hS
    | _ => exact False.elim hS
  · cases hlen
theorem oz_ccpy {idx : Nat} (cx : oz_cx κ N0 nb p s m args c cc nL own) (hlink : Cond.methodLink own idx arraycopyName ∈ oz_gt) (hnat : Cond.native arraycopyName ∈ oz_gt) (hstat : Cond.static arraycopyName ∈ oz_gt) (hini : Cond.initialized "java/lang/System" ∈ oz_gt) (hR : 1 ≤ Rm.frames ∧ 60 ≤ Rm.locals) : oz_CO κ N0 nL K0 p l e Rm s m args below meth c Q cc (idx, 0, 5, 0, oz_Scpy) := by
  obtain ⟨hx, hb, hml, hown, hts, hB, hnb0⟩ := cx
  intro Φ1 pc L a rest N G R J k hN hlen hdec hcat hroom hS hcont h1 h2 H lo ce sl ls h3 h4 h5 h6 h7
  obtain ⟨i, x, j, y, w, ha⟩ : ∃ i x j y w, a = [.ref i, .int x, .ref j, .int y, .int w] := by
    unfold oz_Scpy at hS
    dsimp only at hS
    split at hS
    · exact ⟨_, _, _, _, _, rfl⟩
    · exact hS.elim
  subst ha
  obtain ⟨n, ⟨rfl, rfl, rfl⟩, ⟨hki, hi, hkj, hj, hni, hnj⟩, hS⟩ := hS
  have hn31 : n < 2 ^ 31 := Nat.lt_of_le_of_lt hni (oz_l_lt i)
  have hcat : oz_cat rest ≤ 8 := hcat
  have hc0 : H[κ.2.2.1 + i]? = some (vp_cell κ.2.1.1 (oz_l i, .inl (G i))) := h5.2 i (κ.2.2.1 + i, .inl (κ.2.1.1, oz_l i, .inl (G i))) (by rw [oz_W_get hi, oz_k6 hki])
  have hc1 : H[κ.2.2.1 + j]? = some (vp_cell κ.2.1.1 (oz_l j, .inl (G j))) := h5.2 j (κ.2.2.1 + j, .inl (κ.2.1.1, oz_l j, .inl (G j))) (by rw [oz_W_get hj, oz_k6 hkj])
  obtain ⟨-, k0, hk0, cm0, hkk0⟩ := (hB.1.2 0 _ rfl).1 (oz_l i) (fun q => .int (G i q))
  obtain ⟨-, k1, hk1, cm1, hkk1⟩ := (hB.1.2 0 _ rfl).1 (oz_l j) (fun q => .int (G j q))
  have hz : (nI 0).toInt = ((0 : Nat) : Int) := nI_toInt (by decide)
  have hnI : (nI n).toInt = (n : Int) := nI_toInt hn31
  have hz2 : (nI 0).toNatClampNeg = 0 := nI_clamp (by decide)
  have hn2 : (nI n).toNatClampNeg = n := nI_clamp hn31
  have hnw : nativeFrameWords "java/lang/System" "arraycopy" 5 ≤ 30 := by decide
  intro T hT X
  obtain ⟨vm', X', step⟩ := X.arraycopy hx hown (hts _ hlink) (hts _ hnat) (hts _ hstat) (hts _ hini) (src := κ.2.2.1 + i) (dst := κ.2.2.1 + j) (cs := vp_cell κ.2.1.1 (oz_l i, .inl (G i))) (cd := vp_cell κ.2.1.1 (oz_l j, .inl (G j))) (srcPos := nI 0) (destPos := nI 0) (n := nI n) (by rw [hT]; exact hc0) (by rw [hT]; exact hc1)
    (fun _ h => by cases h) (fun _ h => by cases h) (fun h => by cases h) (fun h => by cases h) hk0 hk1 hkk0 hkk1 (by simp [refKind]) (nI_pos (by decide)) (nI_pos (by decide)) (nI_pos hn31)
    (by rw [hz, hnI]; show ¬ _ > ((arrV κ.2.1.1 (oz_l i) (fun q => .int (G i q))).slots.size : Int); rw [arrV_size]; omega)
    (by rw [hz, hnI]; show ¬ _ > ((arrV κ.2.1.1 (oz_l j) (fun q => .int (G j q))).slots.size : Int); rw [arrV_size]; omega)
    (fun vm₁ _ q hq => by
      rw [hn2] at hq
      have e : (vp_cell κ.2.1.1 (oz_l i, .inl (G i))).slots.getD ((nI 0).toNatClampNeg + q) .null = .int (G i q) := by
        show (arrV κ.2.1.1 (oz_l i) (fun q => .int (G i q))).slots.getD _ _ = _
        rw [hz2, Nat.zero_add, Array.getD_eq_getD_getElem?, arrV_read _ _ (by omega)]
        rfl
      refine ⟨?_, ?_⟩
      · rw [e]; rfl
      · rw [e]; exact trivial)
    (g := F0 m pc ls (([Value.ref i, .int (nI 0), .ref j, .int (nI 0), .int (nI n)].reverse ++ rest).map (oz_v κ))) rfl (by rw [hml]; exact h7.1) (rest := rest.map (oz_v κ)) rfl (by rw [hb]; exact hdec) hR.1 (by show 2 * 0 + _ + _ ≤ _; rw [oz_cats]; omega)
  have e1 : copied (vp_cell κ.2.1.1 (oz_l i, .inl (G i))) (vp_cell κ.2.1.1 (oz_l j, .inl (G j))) (nI 0) (nI 0) (nI n) = vp_cell κ.2.1.1 (oz_l j, .inl (oz_cpy G i j n j)) := by
    refine (va_copied (fun z => .int z) κ.2.1.1 κ.2.1.1 (sp := (nI 0).toNatClampNeg) (dp := (nI 0).toNatClampNeg) (n := (nI n).toNatClampNeg) (G i) (G j) (by rw [hz2, hn2]; omega)).trans ?_
    rw [vp_cell_i, hz2, hn2]
    congr 1
    funext q
    simp only [va_cpy, oz_cpy, Nat.zero_le, Nat.zero_add, true_and, Nat.sub_zero, if_true]
  rw [e1] at X' step
  have hl : κ.2.2.1 + j < H.size := (Array.getElem?_eq_some_iff.mp hc1).1
  have hheap : ((T.setVm vm').setCell (κ.2.2.1 + j) (vp_cell κ.2.1.1 (oz_l j, .inl (oz_cpy G i j n j)))).heap = H.setIfInBounds (κ.2.2.1 + j) (vp_cell κ.2.1.1 (oz_l j, .inl (oz_cpy G i j n j))) := by rw [← hT]; rfl
  have oq : ∀ q : Nat, q ≠ κ.2.2.1 + j → (H.setIfInBounds (κ.2.2.1 + j) (vp_cell κ.2.1.1 (oz_l j, .inl (oz_cpy G i j n j))))[q]? = H[q]? := fun q hq => by simp [Array.getElem?_setIfInBounds, Ne.symm hq]
  have hH1 : oz_H κ N (oz_cpy G i j n) R J (H.setIfInBounds (κ.2.2.1 + j) (vp_cell κ.2.1.1 (oz_l j, .inl (oz_cpy G i j n j)))) := by
    refine oz_H_set h5 hj (by simp) oq ?_ (fun q hq => oz_E_row (by simp [oz_cpy, hq]) rfl rfl)
    rw [oz_k6 hkj]
    show (H.setIfInBounds _ _)[_]? = some _
    simp [Array.getElem?_setIfInBounds, hl]
  obtain ⟨t, a1, b1⟩ := hcont none N (oz_cpy G i j n) R J hS h1 (by omega) _ _ ce sl ls h3 h4 hH1 ⟨by simp; exact h6.1, fun q g1 g2 => by
      rw [oq q (fun e => g2 (by rw [e]; exact Nat.le_add_right _ _))]
      exact h6.2.1 q g1 g2, fun q hq => by
      rcases List.mem_append.mp hq with h | h
      · exact h6.2.2 q h
      · obtain ⟨z, -, hz⟩ := List.mem_map.mp h
        rw [← hz]
        exact Nat.le_add_right _ _⟩ h7 _ hheap X'
  exact ⟨t, step t a1, b1⟩
end OZC
