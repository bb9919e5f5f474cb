/-! the class's public methods: play, put -/
def fmO (n rl ex c : Nat) : Option Nat := if dg c n = mf n rl ex c then none else fmo n rl ex c (mf n rl ex c) n 0
theorem fm_O (n rl ex c : Nat) : fm n rl ex c = fI (fmO n rl ex c) := by
  unfold fm fmO
  split
  · rfl
  · rfl
theorem fmo_e {n rl ex c m : Nat} : ∀ f i j, fmo n rl ex c m f i = some j → i ≤ j ∧ j < i + f ∧ lg n ex c j = 1 ∧ mf n rl ex (mvc n rl c j) = m
  | 0, i, j, h => by cases h
  | f + 1, i, j, h => by
    unfold fmo at h
    split at h
    · next q =>
      cases h
      exact ⟨Nat.le_refl _, by omega, q⟩
    · obtain ⟨h1, h2, h3⟩ := fmo_e f (i + 1) j h
      exact ⟨by omega, by omega, h3⟩
theorem fo_ge {f : Nat → Nat → Nat} {a : Nat} (h : ∀ k x, x ≤ f k x) : ∀ n, a ≤ fo f a n
  | 0 => Nat.le_refl _
  | n + 1 => Nat.le_trans (fo_ge h n) (h n _)
theorem dg_mf {n rl ex u c : Nat} (hg : Gd n u c) : dg c n ≤ mf n rl ex c := by
  unfold mf
  split
  · exact Nat.le_refl _
  · rw [Bv_eq hg]
    refine fo_ge (fun k x => ?_) n
    unfold bz
    split
    · exact Nat.le_max_left _ _
    · exact Nat.le_refl _
/-- the best play: how many moves, and the state behind them -/
def pl : Nat → St → Nat → Nat × St
  | 0, S, m => (m, S)
  | f + 1, S, m => match fmO (sN S) (sRl S) (sEx S) (sC S) with
    | none => (m, S)
    | some i => pl f (sMv S i) (m + 1)
def q_play (W : Wd) : Int32 × Wd := (nI (pl 20 (wS W) 0).1, wRec W (pl 20 (wS W) 0).2)
def s_X5_play : oz_S := oz_t0 0 fun N G R J Φ => ∃ W, CR N G R W ∧ wOk W ∧ sHb (wS W) ∧ pQ N G W Φ (q_play W)
