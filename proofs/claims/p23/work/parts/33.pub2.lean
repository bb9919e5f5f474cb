/-! the class's public methods: changes -/
theorem ti {j : Nat} (h : j < 2 ^ 31) : (nI j).toInt = (j : Int) := by
  show (BitVec.ofNat 32 j).toInt = (j : Int)
  rw [BitVec.toInt_eq_toNat_of_lt]
  · rw [BitVec.toNat_ofNat, Nat.mod_eq_of_lt (by omega)]
  · rw [BitVec.toNat_ofNat, Nat.mod_eq_of_lt (by omega)]
    omega
theorem rng {x : Int32} {a b : Nat} (h1 : ¬ x < nI a) (h2 : ¬ nI b < x) (ha : a < 2 ^ 31) (hb : b < 2 ^ 31) : x = nI (nt x) ∧ a ≤ nt x ∧ nt x ≤ b := by
  rw [Int32.lt_iff_toInt_lt, ti ha] at h1
  rw [Int32.lt_iff_toInt_lt, ti hb] at h2
  have e : nt x = x.toInt.toNat := rfl
  refine ⟨?_, by omega, by omega⟩
  apply Int32.toInt_inj.1
  rw [ti (by omega)]
  omega
theorem rng2 {x : Int32} {b : Nat} (h1 : ¬ x < 0) (h2 : ¬ nI b ≤ x) (hb : b < 2 ^ 31) : x = nI (nt x) ∧ nt x < b := by
  obtain ⟨j, hj, hx, -, -, -⟩ := pk_mu h1 h2 hb
  rw [hx, nt_nI (by omega)]
  exact ⟨rfl, hj⟩
theorem rl6_t {x : Int32} (h : rl6 x = true) : x = nI (nt x) ∧ 2 ≤ nt x ∧ nt x ≤ 6 := by
  unfold rl6 at h
  simp only [Bool.and_eq_true, decide_eq_true_eq] at h
  exact rng h.1 h.2 (by decide) (by decide)
def wRec (W : Wd) (S : St) : Wd := wNow (wPsh W) S
def sGet (S : St) (j : Nat) : Nat := if j = 0 then sRl S else if j = 1 then sEx S else sLv S
def sSet (S : St) (j v : Nat) : St := (sN S, if j = 0 then v else sRl S, if j = 1 then v else sEx S, if j = 2 then v else sLv S, sC S, sK S)
def q_set (W : Wd) (x y : Int32) : Int32 × Wd := if (x < 0 ∨ nI 3 ≤ x) ∨ (y < 0 ∨ nI 1 < y) then (oz_c (-2), W) else (nI (sGet (wS W) (nt x)), wRec W (sSet (wS W) (nt x) (nt y)))
def t_X5_set : oz_T := (P_X5_set, e_X5, [(58, 1, 1, 0, s_X5_record)], (true, 44, none, false, 0), (0, fun _ => 0))
def s_X5_set : oz_S := oz_t2 0 fun x y N G R J Φ => ∃ W, CR N G R W ∧ wOk W ∧ pQ N G W Φ (q_set W x y)
theorem I_X5_set : oz_Imp t_X5_set 4 s_X5_set := by
  intro Φ A a N G R J hN hS hC
  obtain ⟨x, y, rfl, W, hCR, hok, h⟩ := oz_t2_e hS
  obtain ⟨hi, sl, rfl, hh, hs, hSt, -⟩ := id hCR
  unfold q_set at h
  have a18 : ((x < 0 ∨ nI 3 ≤ x) ∨ (y < 0 ∨ nI 1 < y)) → A 18 [some (.ref 0), some (.int x), some (.int y), none] [] N G (rmR hi sl) J 0 := fun q => by
    rw [if_pos q] at h
    exact hC.1 [] 20 18 _ _ _ _ _ _ _ (pQ_0 h hCR)
  have a21 : ¬ ((x < 0 ∨ nI 3 ≤ x) ∨ (y < 0 ∨ nI 1 < y)) → A 21 [some (.ref 0), some (.int x), some (.int y), none] [] N G (rmR hi sl) J 0 := fun q => by
    rw [if_neg q] at h
    have hx := rng2 (x := x) (b := 3) (fun z => q (Or.inl (Or.inl z))) (fun z => q (Or.inl (Or.inr z))) (by decide)
    have hy := rng (x := y) (a := 0) (b := 1) (fun z => q (Or.inr (Or.inl z))) (fun z => q (Or.inr (Or.inr z))) (by decide) (by decide)
    refine hC.1 [25] 40 21 _ _ _ _ _ _ _ ⟨W, hCR, hok, fun G' R' c1 c2 c3 => ?_⟩
    obtain ⟨hi', sl', rfl, -, -, hSt', -⟩ := id c1
    have hlen := (psh_len (S := wS W) hok.2.2.2.2).1
    have hSt' : StR G' 1 (wS W) := hSt'
    have hv : G' 2 (nt x) = nI (sGet (wS W) (nt x)) := by
      have hx3 : nt x = 0 ∨ nt x = 1 ∨ nt x = 2 := by omega
      rcases hx3 with z | z | z <;> rw [z]
      · exact hSt'.2.2.2.2.1
      · exact hSt'.2.2.2.2.2.1
      · exact hSt'.2.2.2.2.2.2.1
    have hR : StR (oz2 G' 2 (nt x) y) 1 (sSet (wS W) (nt x) (nt y)) := by
      obtain ⟨g1, g2, g3, g4, g5, g6, g7, g8⟩ := hSt'
      have gk : ∀ j, KpR (oz2 G' 2 j y) 1 (sK (wS W)) := fun j => KpR_fr (G := G') (G' := oz2 G' 2 j y) (b := 1) (b' := 1) (m := (sK (wS W)).length) (fun _ _ => rfl) (fun _ _ => rfl) (fun _ _ => rfl) (sK (wS W)) (Nat.le_refl _) g8
      have hx3 : nt x = 0 ∨ nt x = 1 ∨ nt x = 2 := by omega
      rcases hx3 with z | z | z <;> rw [z]
      · exact ⟨g1, g2, g3, g4, hy.1, g6, g7, gk 0⟩
      · exact ⟨g1, g2, g3, g4, g5, hy.1, g7, gk 1⟩
      · exact ⟨g1, g2, g3, g4, g5, g6, hy.1, gk 2⟩
    have hf := h N (oz2 G' 2 (nt x) y) _ J (Nat.le_refl _) (CR_now c1 hlen hR (fun i hi => oz2_row (by omega))) (fun i a1 a2 => by rw [oz2_row (by omega)]; exact c2 i a1 a2)
    rw [← hv] at hf
    exact hC.1 [] 60 25 _ _ _ _ _ _ _ ⟨nt x, hx.1, hx.2, nt x, hx.1, hx.2, hf⟩
  refine hC.1 [18, 21] 40 0 _ _ _ _ _ _ _ ⟨fun q => a18 (Or.inl (Or.inl q)), fun q => ⟨fun q2 => a18 (Or.inl (Or.inr q2)), fun q2 => ⟨fun q3 => a18 (Or.inr (Or.inl q3)), fun q3 => ⟨fun q4 => a21 ?_, fun q4 => a18 (Or.inr (Or.inr ?_))⟩⟩⟩⟩
  · have q4 : y ≤ nI 1 := q4
    exact fun z => z.elim (fun z => z.elim q q2) (fun z => z.elim q3 (fun z => Int32.not_lt.mpr q4 z))
  · have q4 : ¬ y ≤ nI 1 := q4
    exact Int32.not_le.mp q4
def q_wipe (W : Wd) : Int32 × Wd := (nI (wL W), wPad W (wP W) 0)
def s_X5_wipe : oz_S := oz_t0 0 fun N G R J Φ => ∃ W, CR N G R W ∧ wOk W ∧ pQ N G W Φ (q_wipe W)
def rdW (W : Wd) : Nat × Nat × Nat × Option Nat := rd (wP W) (wL W) 0 none false 0 0 0
def q_fault (W : Wd) : Int32 × Wd := (fI (rdW W).2.2.2, W)
theorem CR_rd {N : Nat} {G : oz_G} {R : oz_R} {W : Wd} (h : CR N G R W) (hlen : (wH W).length ≤ 6) (c s p : Nat) : CR N (pG G c s p) R W := by
  have hP : PdC (pG G c s p) (wP W) (wL W) := by
    obtain ⟨hi, sl, -, -, -, -, -, -, -, -, hP⟩ := h
    exact PdC_fr rfl rfl hP
  exact CR_pad h hlen hP (fun i a1 a2 => by unfold pG; rw [oz2_row a1, oz2_row a1, oz2_row a1])
def s_X5_fault : oz_S := oz_t0 0 fun N G R J Φ => ∃ W, CR N G R W ∧ wOk W ∧ pQ N G W Φ (q_fault W)
/-- a life at the beginning -/
def lvb (v : Nat) : Nat := if v = 1 then 2 ^ 28 else 0
/-- a round begun -/
def sNew (S : St) (n c0 : Nat) : St := (n, sRl S, sEx S, sLv S, c0 + lvb (sLv S), [])
theorem mx_or28 {c : Nat} (h : c < 2 ^ 28) : nI c ||| nI 268435456 = nI (c + 2 ^ 28) := by
  have e : (268435456 : Nat) = 2 ^ 28 := by decide
  rw [e]
  exact mx_or h
theorem sr_R {G : oz_G} {S : St} {n c0 : Nat} (hS : StR G 1 S) (hv : sLv S ≤ 1) (hc : c0 < 2 ^ 28) : StR (oz2 (oz2 (oz2 (oz2 G 1 1 (nI n)) 1 2 (if G 2 2 = nI 1 then nI c0 ||| nI 268435456 else nI c0)) 1 3 (nI 0)) 1 4 (nI 0)) 1 (sNew S n c0) := by
  obtain ⟨g1, g2, g3, g4, g5, g6, g7, g8⟩ := hS
  refine ⟨rfl, ?_, rfl, rfl, g5, g6, g7, trivial⟩
  have key : (if G 2 2 = nI 1 then nI c0 ||| nI 268435456 else nI c0) = nI (c0 + lvb (sLv S)) := by
    have g7 : G 2 2 = nI (sLv S) := g7
    rw [g7]
    unfold lvb
    by_cases q : sLv S = 1
    · rw [if_pos q, q, if_pos rfl, mx_or28 hc]
    · have q0 : sLv S = 0 := by omega
      rw [if_neg q, q0, if_neg (by decide), Nat.add_zero]
  exact key
