/-! the class's pad -/
abbrev e_X0 : List (Nat × Nat × Nat) × List (Nat × Int32) × List (Nat × Int64) × List (Nat × Nat) := (fl_X0, kt_X0, lt_X0, cn_X0)
/-- how many characters a number holds, 0 if it isn't well made -/
def cin : Nat → Nat → Nat → Nat
  | 0, X, k => if X = 0 then k else 0
  | f + 1, X, k => if X % 256 = 0 then (if X = 0 then k else 0) else if X % 256 < 33 ∨ 126 < X % 256 then 0 else cin f (X / 256) (k + 1)
def s_X0_charactersIn : oz_S := fun a N G R J Φ => match a with
  | [.long x] => ∃ X, x = lN X ∧ X < 2 ^ 64 ∧ Φ (some (.int (nI (cin 8 X 0)))) N G R J
  | _ => False
theorem mx_l0 {X : Nat} (h : X < 2 ^ 64) : lN X = lN 0 ↔ X = 0 := by
  constructor
  · intro q
    have := congrArg (fun z => z.toBitVec.toNat) q
    simp only [wb_tn h, wb_tn (n := 0) (by decide)] at this
    exact this
  · intro q; rw [q]
theorem mx_l2i (X : Nat) : (lN X).toInt32 = nI X := lN_i X
theorem mx_m255 {X : Nat} (h : X < 2 ^ 64) : lN X &&& lN 255 = lN (X % 256) := wb_mask (k := 8) h (by decide)
theorem mx_sh8 {X : Nat} (h : X < 2 ^ 64) : ((lN X).toUInt64 >>> ((nI 8).toInt64.toUInt64 &&& Int64.toUInt64 63)).toInt64 = lN (X / 256) := wb_shr (k := 8) h (by decide)
def s_X0_append : oz_S := oz_t1 8 fun x N G R J Φ => ∃ hi sl len, R = rmR hi sl ∧ G 8 1 = nI len ∧ len < 40 ∧ Φ none N (oz2 (oz2 G 9 len x) 8 1 (nI (len + 1))) R J
/-- a number that is read, or none -/
def nu : Option Nat → Int32
  | none => oz_c (-6)
  | some v => nI v
def cg (o : Option Nat) (ch : Nat) : Bool := decide (48 ≤ ch) && decide (ch ≤ 57) && (match o with
  | none => true
  | some v => !(decide (v = 0)) && decide (v * 10 + ch - 48 ≤ 14))
def b2 (b : Bool) : Int32 := match b with
  | true => nI 1
  | false => nI 0
theorem nu_none : (oz_c (-6) : Int32) ≠ nI 0 := by decide
theorem nu_ne (v : Nat) (h : v < 100) : nI v ≠ oz_c (-6) := by
  have key : ∀ v, v < 100 → nI v ≠ oz_c (-6) := by decide
  exact key v h
def s_X0_canGrow : oz_S := oz_i2 fun x y N G R J Φ => ∃ o ch, x = nu o ∧ y = nI ch ∧ ch < 128 ∧ (∀ v, o = some v → v ≤ 14) ∧ Φ (some (.int (b2 (cg o ch)))) N G R J
def cs (cnt ch : Nat) : Bool := decide (ch = 47) || (decide (ch = 44) && decide (cnt + 2 ≤ 6))
def s_X0_canSeparate : oz_S := oz_t1 8 fun x N G R J Φ => ∃ cnt ch, G 8 2 = nI cnt ∧ cnt < 100 ∧ x = nI ch ∧ ch < 128 ∧ Φ (some (.int (b2 (cs cnt ch)))) N G R J
def s_X0_takePit : oz_S := oz_t1 8 fun x N G R J Φ => Φ none N (oz2 (oz2 (oz2 G 8 4 (G 8 4 + rw_sd x (G 8 2))) 8 3 (G 8 3 + x)) 8 2 (G 8 2 + nI 1)) R J
def s_X0_takeStore : oz_S := oz_t1 8 fun x N G R J Φ => Φ none N (oz2 (oz2 G 8 4 (G 8 4 + rw_sd x (G 8 2))) 8 3 (G 8 3 + x)) R J
