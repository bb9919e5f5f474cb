/-! states copied, rounds begun -/
/-- a state's cells, five in a row -/
def Stc (R : oz_R) (N b : Nat) : Prop := (oz_k b = 3 ∧ oz_k (b + 1) = 6 ∧ oz_k (b + 2) = 6 ∧ oz_k (b + 3) = 6 ∧ oz_k (b + 4) = 6) ∧ (oz_l (b + 1) = 3 ∧ oz_l (b + 2) = 20 ∧ oz_l (b + 3) = 20 ∧ oz_l (b + 4) = 20) ∧ (R b 0 = some (b + 1) ∧ R b 5 = some (b + 2) ∧ R b 6 = some (b + 3) ∧ R b 7 = some (b + 4)) ∧ b + 4 < N
def cpS (G : oz_G) (b o : Nat) : oz_G := fun i => if i = b then (fun f => if 1 ≤ f ∧ f ≤ 4 then G o f else G b f) else if i = b + 1 then (fun j => if j < 3 then G (o + 1) j else G (b + 1) j) else if i = b + 2 then (fun j => if j < 20 then G (o + 2) j else G (b + 2) j) else if i = b + 3 then (fun j => if j < 20 then G (o + 3) j else G (b + 3) j) else if i = b + 4 then (fun j => if j < 20 then G (o + 4) j else G (b + 4) j) else G i
def cpF (G : oz_G) (b o : Nat) : oz_G := oz2 (oz2 (oz2 (oz2 G b 1 (G o 1)) b 2 (G o 2)) b 3 (G o 3)) b 4 (G o 4)
theorem cpF_b {G : oz_G} {b o f : Nat} : cpF G b o b f = if 1 ≤ f ∧ f ≤ 4 then G o f else G b f := by
  unfold cpF
  by_cases h4 : f = 4
  · subst h4; simp [oz2]
  · by_cases h3 : f = 3
    · subst h3; simp [oz2]
    · by_cases h2 : f = 2
      · subst h2; simp [oz2]
      · by_cases h1 : f = 1
        · subst h1; simp [oz2]
        · rw [if_neg (by omega)]
          simp [oz2, h1, h2, h3, h4]
theorem cpF_o {G : oz_G} {b o i : Nat} (h : i ≠ b) : cpF G b o i = G i := by
  unfold cpF
  simp [oz2, h]
theorem cpy_b {G : oz_G} {a b n : Nat} : oz_cpy G a b n b = fun j => if j < n then G a j else G b j := by simp [oz_cpy]
theorem cpy_o {G : oz_G} {a b n i : Nat} (h : i ≠ b) : oz_cpy G a b n i = G i := by simp [oz_cpy, h]
theorem cpS_eq {G : oz_G} {b o : Nat} (h : b + 4 < o ∨ o + 4 < b) : oz_cpy (oz_cpy (oz_cpy (cpF (oz_cpy G (o + 1) (b + 1) 3) b o) (o + 2) (b + 2) 20) (o + 3) (b + 3) 20) (o + 4) (b + 4) 20 = cpS G b o := by
  funext i
  unfold cpS
  by_cases h4 : i = b + 4
  · subst h4
    rw [cpy_b, cpy_o (by omega), cpy_o (by omega), cpy_o (by omega), cpy_o (by omega), cpF_o (by omega), cpF_o (by omega), cpy_o (by omega), cpy_o (by omega)]
    rw [if_neg (by omega), if_neg (by omega), if_neg (by omega), if_neg (by omega), if_pos rfl]
  · rw [cpy_o h4]
    by_cases h3 : i = b + 3
    · subst h3
      rw [cpy_b, cpy_o (by omega), cpy_o (by omega), cpF_o (by omega), cpF_o (by omega), cpy_o (by omega), cpy_o (by omega)]
      rw [if_neg (by omega), if_neg (by omega), if_neg (by omega), if_pos rfl]
    · rw [cpy_o h3]
      by_cases h2 : i = b + 2
      · subst h2
        rw [cpy_b, cpF_o (by omega), cpF_o (by omega), cpy_o (by omega), cpy_o (by omega)]
        rw [if_neg (by omega), if_neg (by omega), if_pos rfl]
      · rw [cpy_o h2]
        by_cases h0 : i = b
        · subst h0
          funext f
          rw [cpF_b, cpy_o (by omega), cpy_o (by omega), if_pos rfl]
        · rw [cpF_o h0, if_neg h0]
          by_cases h1 : i = b + 1
          · subst h1
            rw [cpy_b, if_pos rfl]
          · rw [cpy_o h1, if_neg h1, if_neg h2, if_neg h3, if_neg h4]
def t_X4_copyFrom : oz_T := (P_X4_copyFrom, e_X4, [(24, 0, 5, 0, oz_Scpy)], (false, 0, none, false, 0), (0, fun _ => 0))
def s_X4_copyFrom : oz_S := fun a N G R J Φ => match a with
  | [.ref b, .ref o] => Stc R N b ∧ Stc R N o ∧ (b + 4 < o ∨ o + 4 < b) ∧ Φ none N (cpS G b o) R J
  | _ => False
theorem I_X4_copyFrom : oz_Imp t_X4_copyFrom 2 s_X4_copyFrom := by
  intro Φ A a N G R J hN hS hC
  obtain ⟨b, o, rfl, hb, ho, hbo, h⟩ : ∃ b o : Nat, a = [.ref b, .ref o] ∧ Stc R N b ∧ Stc R N o ∧ (b + 4 < o ∨ o + 4 < b) ∧ Φ none N (cpS G b o) R J := by
    unfold s_X4_copyFrom at hS
    split at hS
    · exact ⟨_, _, rfl, hS⟩
    · exact hS.elim
  obtain ⟨⟨b1, b2, b3, b4, b5⟩, ⟨b6, b7, b8, b9⟩, ⟨b10, b11, b12, b13⟩, b14⟩ := hb
  obtain ⟨⟨o1, o2, o3, o4, o5⟩, ⟨o6, o7, o8, o9⟩, ⟨o10, o11, o12, o13⟩, o14⟩ := ho
  rw [← cpS_eq hbo] at h
  have nb1 : b + 1 < N := by omega
  have nb2 : b + 2 < N := by omega
  have nb3 : b + 3 < N := by omega
  have no1 : o + 1 < N := by omega
  have no2 : o + 2 < N := by omega
  have no3 : o + 3 < N := by omega
  have cb : oz_k b = 3 ∧ b < N := ⟨b1, by omega⟩
  have co : oz_k o = 3 ∧ o < N := ⟨o1, by omega⟩
  have a88 : A 88 [some (.ref b), some (.ref o)] [.int (oz_c 20), .int (oz_c 0), .ref (b + 4), .int (oz_c 0), .ref (o + 4)] N (oz_cpy (oz_cpy (cpF (oz_cpy G (o + 1) (b + 1) 3) b o) (o + 2) (b + 2) 20) (o + 3) (b + 3) 20) R J 0 :=
    hC.1 [] 20 88 _ _ _ _ _ _ _ ⟨20, ⟨rfl, rfl, rfl⟩, ⟨o5, o14, b5, b14, by omega, by omega⟩, h⟩
  have a76 : A 76 [some (.ref b), some (.ref o)] [] N (oz_cpy (oz_cpy (cpF (oz_cpy G (o + 1) (b + 1) 3) b o) (o + 2) (b + 2) 20) (o + 3) (b + 3) 20) R J 0 :=
    hC.1 [88] 20 76 _ _ _ _ _ _ _ ⟨co, cb, show A 88 [some (.ref b), some (.ref o)] [.int (oz_c 20), .int (oz_c 0), va_rf (R b 7), .int (oz_c 0), va_rf (R o 7)] N (oz_cpy (oz_cpy (cpF (oz_cpy G (o + 1) (b + 1) 3) b o) (o + 2) (b + 2) 20) (o + 3) (b + 3) 20) R J 0 by rw [b13, o13]; exact a88⟩
  have a73 : A 73 [some (.ref b), some (.ref o)] [.int (oz_c 20), .int (oz_c 0), .ref (b + 3), .int (oz_c 0), .ref (o + 3)] N (oz_cpy (cpF (oz_cpy G (o + 1) (b + 1) 3) b o) (o + 2) (b + 2) 20) R J 0 :=
    hC.1 [76] 20 73 _ _ _ _ _ _ _ ⟨20, ⟨rfl, rfl, rfl⟩, ⟨o4, no3, b4, nb3, by omega, by omega⟩, a76⟩
  have a61 : A 61 [some (.ref b), some (.ref o)] [] N (oz_cpy (cpF (oz_cpy G (o + 1) (b + 1) 3) b o) (o + 2) (b + 2) 20) R J 0 :=
    hC.1 [73] 20 61 _ _ _ _ _ _ _ ⟨co, cb, show A 73 [some (.ref b), some (.ref o)] [.int (oz_c 20), .int (oz_c 0), va_rf (R b 6), .int (oz_c 0), va_rf (R o 6)] N (oz_cpy (cpF (oz_cpy G (o + 1) (b + 1) 3) b o) (o + 2) (b + 2) 20) R J 0 by rw [b12, o12]; exact a73⟩
  have a58 : A 58 [some (.ref b), some (.ref o)] [.int (oz_c 20), .int (oz_c 0), .ref (b + 2), .int (oz_c 0), .ref (o + 2)] N (cpF (oz_cpy G (o + 1) (b + 1) 3) b o) R J 0 :=
    hC.1 [61] 20 58 _ _ _ _ _ _ _ ⟨20, ⟨rfl, rfl, rfl⟩, ⟨o3, no2, b3, nb2, by omega, by omega⟩, a61⟩
  have a46 : A 46 [some (.ref b), some (.ref o)] [] N (cpF (oz_cpy G (o + 1) (b + 1) 3) b o) R J 0 :=
    hC.1 [58] 20 46 _ _ _ _ _ _ _ ⟨co, cb, show A 58 [some (.ref b), some (.ref o)] [.int (oz_c 20), .int (oz_c 0), va_rf (R b 5), .int (oz_c 0), va_rf (R o 5)] N (cpF (oz_cpy G (o + 1) (b + 1) 3) b o) R J 0 by rw [b11, o11]; exact a58⟩
  have a14 : A 14 [some (.ref b), some (.ref o)] [] N (oz_cpy G (o + 1) (b + 1) 3) R J 0 := by
    refine hC.1 [46] 40 14 _ _ _ _ _ _ _ ⟨co, cb, co, cb, co, cb, co, cb, ?_⟩
    have e : ∀ (X : oz_G) (f g : Nat) (v : Int32), oz2 X b f v o g = X o g := fun X f g v => by rw [oz2_row (by omega)]
    show A 46 [some (.ref b), some (.ref o)] [] N (oz2 (oz2 (oz2 (oz2 (oz_cpy G (o + 1) (b + 1) 3) b 1 (oz_cpy G (o + 1) (b + 1) 3 o 1)) b 2 (oz2 (oz_cpy G (o + 1) (b + 1) 3) b 1 (oz_cpy G (o + 1) (b + 1) 3 o 1) o 2)) b 3 (oz2 (oz2 (oz_cpy G (o + 1) (b + 1) 3) b 1 (oz_cpy G (o + 1) (b + 1) 3 o 1)) b 2 (oz2 (oz_cpy G (o + 1) (b + 1) 3) b 1 (oz_cpy G (o + 1) (b + 1) 3 o 1) o 2) o 3)) b 4 (oz2 (oz2 (oz2 (oz_cpy G (o + 1) (b + 1) 3) b 1 (oz_cpy G (o + 1) (b + 1) 3 o 1)) b 2 (oz2 (oz_cpy G (o + 1) (b + 1) 3) b 1 (oz_cpy G (o + 1) (b + 1) 3 o 1) o 2)) b 3 (oz2 (oz2 (oz_cpy G (o + 1) (b + 1) 3) b 1 (oz_cpy G (o + 1) (b + 1) 3 o 1)) b 2 (oz2 (oz_cpy G (o + 1) (b + 1) 3) b 1 (oz_cpy G (o + 1) (b + 1) 3 o 1) o 2) o 3) o 4)) R J 0
    simp only [e]
    exact a46
  have a11 : A 11 [some (.ref b), some (.ref o)] [.int (oz_c 3), .int (oz_c 0), .ref (b + 1), .int (oz_c 0), .ref (o + 1)] N G R J 0 :=
    hC.1 [14] 20 11 _ _ _ _ _ _ _ ⟨3, ⟨rfl, rfl, rfl⟩, ⟨o2, no1, b2, nb1, by omega, by omega⟩, a14⟩
  exact hC.1 [11] 20 0 _ _ _ _ _ _ _ ⟨co, cb, show A 11 [some (.ref b), some (.ref o)] [.int (oz_c 3), .int (oz_c 0), va_rf (R b 0), .int (oz_c 0), va_rf (R o 0)] N G R J 0 by rw [b10, o10]; exact a11⟩
def t_X4_startRound : oz_T := (P_X4_startRound, e_X4, [], (false, 0, none, false, 0), (0, fun _ => 0))
def s_X4_startRound : oz_S := oz_t2 1 fun x y N G R J Φ => R 1 0 = some 2 ∧ 5 < N ∧ Φ none N (oz2 (oz2 (oz2 (oz2 G 1 1 x) 1 2 (if G 2 2 = nI 1 then y ||| nI 268435456 else y)) 1 3 (nI 0)) 1 4 (nI 0)) R J
theorem I_X4_startRound : oz_Imp t_X4_startRound 3 s_X4_startRound := by
  intro Φ A a N G R J hN hS hC
  obtain ⟨x, y, rfl, hR, hN5, h⟩ := oz_t2_e hS
  have c1 : oz_k 1 = 3 ∧ 1 < N := ⟨rfl, by omega⟩
  have c2 : oz_k 2 = 6 ∧ 2 < N := ⟨rfl, by omega⟩
  have a11 : A 11 [some (.ref 1), some (.int x), some (.int y)] [.int (oz_c 2), .ref 2, .ref 1] N (oz2 G 1 1 x) R J 0 := by
    refine hC.1 [] 40 11 _ _ _ _ _ _ _ ⟨c2, 2, rfl, by decide, fun hq => ?_, fun hq => ?_⟩
    · have hq : ¬ G 2 2 = nI 1 := hq
      rw [if_neg hq] at h
      exact ⟨c1, c1, c1, h⟩
    · have hq : ¬ ¬ G 2 2 = nI 1 := hq
      rw [if_pos (Classical.not_not.mp hq)] at h
      exact ⟨c1, c1, c1, h⟩
  exact hC.1 [11] 40 0 _ _ _ _ _ _ _ ⟨c1, c1, show A 11 [some (.ref 1), some (.int x), some (.int y)] [.int (oz_c 2), va_rf (R 1 0), .ref 1] N (oz2 G 1 1 x) R J 0 by rw [hR]; exact a11⟩
