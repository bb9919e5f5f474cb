/-! the class's public methods: undo, restore, best, play -/
theorem StOk_20 {S : St} (h : StOk S) : (sK S).length ≤ 16 := by
  obtain ⟨-, -, -, -, -, u, hu, hg, hK⟩ := h
  have := KOk_len _ _ hg hK
  omega
def q_undo (W : Wd) : Int32 × Wd := match wH W with
  | [] => (oz_c (-5), W)
  | S :: H => (nI H.length, (S, H, w0 W, w1 W, wP W, wL W))
def s_X5_undo : oz_S := oz_t0 0 fun N G R J Φ => ∃ W, CR N G R W ∧ wOk W ∧ pQ N G W Φ (q_undo W)
def wSl (W : Wd) (k : Nat) : Option St := if k = 0 then w0 W else w1 W
def q_restore (W : Wd) (x : Int32) : Int32 × Wd := if x < 0 ∨ nI 2 ≤ x then (oz_c (-2), W) else match wSl W (nt x) with
  | none => (oz_c (-5), W)
  | some S => (nI (dg (sC S) (sN S)), wRec W S)
def s_X5_restore : oz_S := oz_t1 0 fun x N G R J Φ => ∃ W, CR N G R W ∧ wOk W ∧ pQ N G W Φ (q_restore W x)
theorem wSl_ok {W : Wd} (h : wOk W) {k : Nat} {S : St} (e : wSl W k = some S) : StOk S := by
  unfold wSl at e
  split at e
  · exact h.2.2.1 S e
  · exact h.2.2.2.1 S e
theorem wSl_R {G : oz_G} {sl : Nat → Option Nat} {W : Wd} (h0 : SlR G sl (w0 W) 0) (h1 : SlR G sl (w1 W) 1) {k : Nat} (hk : k < 2) : SlR G sl (wSl W k) k := by
  have hk : k = 0 ∨ k = 1 := by omega
  rcases hk with rfl | rfl
  · exact h0
  · exact h1
theorem nd_le {α : Type} [BEq α] [LawfulBEq α] : ∀ (L M : List α), L.Nodup → (∀ x, x ∈ L → x ∈ M) → L.length ≤ M.length
  | [], M, _, _ => Nat.zero_le _
  | x :: L, M, hL, h => by
    obtain ⟨h1, h2⟩ := List.nodup_cons.mp hL
    have hx := h x List.mem_cons_self
    have := nd_le L (M.erase x) h2 (fun y hy => (List.mem_erase_of_ne (fun (z : y = x) => h1 (by rw [← z]; exact hy))).mpr (h y (List.mem_cons_of_mem _ hy)))
    rw [List.length_erase_of_mem hx] at this
    have hp : 0 < M.length := List.length_pos_of_mem hx
    rw [List.length_cons]
    omega
/-- how many positions can come, that one among them, none of them lost -/
noncomputable def fnd (n rl ex c : Nat) : Nat := if lo c = 1 then 0 else @dite Nat (∃ L : List Nat, L.Nodup ∧ ∀ x, x ∈ L ↔ Rch n rl ex c x) (Classical.propDecidable _) (fun h => h.choose.length) (fun _ => 0)
theorem fnd_eq {n rl ex c : Nat} {L : List Nat} (h0 : lo c = 0) (h1 : L.Nodup) (h2 : ∀ x, x ∈ L ↔ Rch n rl ex c x) : fnd n rl ex c = L.length := by
  have hex : ∃ L : List Nat, L.Nodup ∧ ∀ x, x ∈ L ↔ Rch n rl ex c x := ⟨L, h1, h2⟩
  unfold fnd
  rw [if_neg (by omega), dif_pos hex]
  obtain ⟨a1, a2⟩ := hex.choose_spec
  exact Nat.le_antisymm (nd_le _ _ a1 (fun x hx => (h2 x).mpr ((a2 x).mp hx))) (nd_le _ _ h1 (fun x hx => (a2 x).mpr ((h2 x).mp hx)))
theorem tab_all {n rl ex u c0 : Nat} {lw mo fe : Nat → Nat} {L : List Nat} (h : Tab n rl ex u c0 lw mo fe L []) (hc : c0 ∈ L) (x : Nat) : x ∈ L ↔ Rch n rl ex c0 x := by
  refine ⟨fun hx => (h.2.1 x hx).2.2, fun ⟨d, hd⟩ => ?_⟩
  have key : ∀ d x, Rk n rl ex c0 d x → x ∈ L := by
    intro d
    induction d with
    | zero => intro x hx; rw [show x = c0 from hx]; exact hc
    | succ d ih =>
      intro x hx
      obtain ⟨c, i, h1, h2, h3, rfl, h5⟩ := hx
      exact (h.2.2.2.2.2.2 c (ih c h1) List.not_mem_nil).2.2 i h2 h3 h5
  exact key d x hd
noncomputable def sBst (S : St) (x : Int32) : Int32 := if x = nI 0 then nI (mf (sN S) (sRl S) (sEx S) (sC S)) else if x = nI 1 then fm (sN S) (sRl S) (sEx S) (sC S) else if x = nI 2 then nI (fnd (sN S) (sRl S) (sEx S) (sC S)) else ff (sN S) (sRl S) (sEx S) (sC S)
noncomputable def q_best (W : Wd) (x : Int32) : Int32 × Wd := (if x < nI 0 ∨ nI 3 < x then oz_c (-2) else sBst (wS W) x, W)
def sHb (S : St) : Prop := Hb (sN S) (sRl S) (sEx S) (sC S)
def t_X5_best : oz_T := (P_X5_best, e_X5, [(121, 1, 2, 0, s_X2_explore), (125, 1, 3, 0, s_X2_mostFrom), (132, 1, 3, 0, s_X2_firstMove), (180, 1, 2, 0, s_X2_fewestFrom)], (true, 44, none, false, 0), (0, fun _ => 0))
def s_X5_best : oz_S := oz_t1 0 fun x N G R J Φ => ∃ W, CR N G R W ∧ wOk W ∧ sHb (wS W) ∧ pQ N G W Φ (q_best W x)
theorem I_X5_best : oz_Imp t_X5_best 2 s_X5_best := by
  intro Φ A a N G R J hN hS hC
  obtain ⟨x, rfl, W, hCR, hok, hHb, h⟩ := oz_t1_e hS
  obtain ⟨hi, sl, rfl, hh, hs, hSt, -⟩ := id hCR
  obtain ⟨u, hu, hg, hK⟩ := hok.1.2.2.2.2.2
  have hev := StR_Ev hSt hok.1
  have hlo := lo_le (c := sC (wS W))
  unfold q_best at h
  have a9 : (x < nI 0 ∨ nI 3 < x) → A 9 [some (.ref 0), some (.int x)] [] N G (rmR hi sl) J 0 := fun q => by
    rw [if_pos q] at h
    exact hC.1 [] 20 9 _ _ _ _ _ _ _ (pQ_0 h hCR)
  have a12 : ¬ (x < nI 0 ∨ nI 3 < x) → A 12 [some (.ref 0), some (.int x)] [] N G (rmR hi sl) J 0 := fun q => by
    rw [if_neg q] at h
    refine hC.1 [23] 60 12 _ _ _ _ _ _ _ ⟨rfl, rfl, hi, sl, sN (wS W), sRl (wS W), sEx (wS W), u, sC (wS W), rfl, hev, hSt.2.1, hHb, hg, fun G' J' lw mo fe L f1 f2 f3 f4 f5 f6 => ?_⟩
    have cr : ∀ G2 : oz_G, (∀ a, a ≠ 13 → G2 a = G' a) → CR N G2 (rmR hi sl) W := fun G2 hg2 => CR_fr hCR hok.2.2.2.2 (fun i hi => by rw [hg2 i (by omega), f1 i (by omega) (by omega)])
    have hev' := Ev_fr f1 hev
    have e2 : G' 1 2 = nI (sC (wS W)) := by rw [f1 1 (by decide) (by decide)]; exact hSt.2.1
    have hf : ∀ G2 : oz_G, (∀ a, a ≠ 13 → G2 a = G' a) → Φ (some (.int (sBst (wS W) x))) N G2 (rmR hi sl) J' := fun G2 hg2 => h N G2 _ J' (Nat.le_refl _) (cr G2 hg2) (fun i a1 a2 => by rw [hg2 i (by omega), f1 i (by omega) (by omega)])
    have hfn : fnd (sN (wS W)) (sRl (wS W)) (sEx (wS W)) (sC (wS W)) = L.length := by
      by_cases z : lo (sC (wS W)) = 0
      · obtain ⟨t1, t2⟩ := f5 z
        exact fnd_eq z t1.1 (tab_all t1 t2)
      · rw [f6 (by omega)]
        unfold fnd
        rw [if_pos (by omega)]
        rfl
    have g0 := hf G' (fun _ _ => rfl)
    unfold sBst at hf g0
    refine hC.1 [52, 71, 90, 98] 60 23 _ _ _ _ _ _ _ ⟨fun k => ?_, fun k0 => ⟨fun k => ?_, fun k1 => ⟨fun k => ?_, fun k2 => ?_⟩⟩⟩
    · rw [if_pos (sw_i (k := 0) (by decide) k)] at g0
      exact hC.1 [] 60 52 _ _ _ _ _ _ _ ⟨rfl, rfl, hi, sl, sN (wS W), sRl (wS W), sEx (wS W), u, sC (wS W), sC (wS W), lw, mo, fe, L, rfl, hev', e2, hg, f4, f5, g0⟩
    · exact hC.1 [] 60 71 _ _ _ _ _ _ _ ⟨rfl, rfl, hi, sl, sN (wS W), sRl (wS W), sEx (wS W), u, sC (wS W), sC (wS W), lw, mo, fe, L, rfl, hev', e2, hg, f4, f5, fun G2 hg2 => by
        have hf := hf G2 hg2
        rw [if_neg (sw_n (k := 0) (by decide) k0), if_pos (sw_i (k := 1) (by decide) k)] at hf
        exact hf⟩
    · rw [if_neg (sw_n (k := 0) (by decide) k0), if_neg (sw_n (k := 1) (by decide) k1), if_pos (sw_i (k := 2) (by decide) k), hfn, ← f3] at g0
      exact hC.1 [] 60 90 _ _ _ _ _ _ _ g0
    · rw [if_neg (sw_n (k := 0) (by decide) k0), if_neg (sw_n (k := 1) (by decide) k1), if_neg (sw_n (k := 2) (by decide) k2)] at g0
      exact hC.1 [] 60 98 _ _ _ _ _ _ _ ⟨hi, sl, sN (wS W), sRl (wS W), sEx (wS W), u, sC (wS W), sC (wS W), lw, mo, fe, L, rfl, e2, hg, f4, f5, g0⟩
  refine hC.1 [9, 12] 30 0 _ _ _ _ _ _ _ ⟨fun q => a9 (Or.inl q), fun q => ⟨fun q2 => a12 ?_, fun q2 => a9 (Or.inr ?_)⟩⟩
  · have q2 : x ≤ nI 3 := q2
    exact fun z => z.elim q (fun z => Int32.not_lt.mpr q2 z)
  · have q2 : ¬ x ≤ nI 3 := q2
    exact Int32.not_le.mp q2
