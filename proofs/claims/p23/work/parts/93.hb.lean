/-! every start has few enough positions -/
theorem hb_61 {ex u c : Nat} (hg : Gd 6 u c) (h0 : lo c = 0) : Hb 6 1 ex c := by
  by_cases hl : lf c = 1
  · by_cases q : c % 16 ^ 6 ∈ E61
    · have key : ∀ v, c % 16 ^ 6 = v → mco 6 c = v + 1 * 2 ^ 24 := fun v hv => by unfold mco; rw [hl, hv]
      have hme : (16777216 : Nat) = 2 ^ 24 := by decide
      unfold E61 at q
      simp only [List.mem_cons, List.not_mem_nil, or_false] at q
      rcases q with q | q | q | q | q | q | q | q | q | q | q | q | q | q
      · exact Hb_cl (by decide) hme b61_0 (by rw [key _ q]; exact m61_0) hg h0
      · exact Hb_cl (by decide) hme b61_1 (by rw [key _ q]; exact m61_1) hg h0
      · exact Hb_cl (by decide) hme b61_2 (by rw [key _ q]; exact m61_2) hg h0
      · exact Hb_cl (by decide) hme b61_3 (by rw [key _ q]; exact m61_3) hg h0
      · exact Hb_cl (by decide) hme b61_4 (by rw [key _ q]; exact m61_4) hg h0
      · exact Hb_cl (by decide) hme b61_5 (by rw [key _ q]; exact m61_5) hg h0
      · exact Hb_cl (by decide) hme b61_6 (by rw [key _ q]; exact m61_6) hg h0
      · exact Hb_cl (by decide) hme b61_7 (by rw [key _ q]; exact m61_7) hg h0
      · exact Hb_cl (by decide) hme b61_8 (by rw [key _ q]; exact m61_8) hg h0
      · exact Hb_cl (by decide) hme b61_9 (by rw [key _ q]; exact m61_9) hg h0
      · exact Hb_cl (by decide) hme b61_10 (by rw [key _ q]; exact m61_10) hg h0
      · exact Hb_cl (by decide) hme b61_11 (by rw [key _ q]; exact m61_11) hg h0
      · exact Hb_cl (by decide) hme b61_12 (by rw [key _ q]; exact m61_12) hg h0
      · exact Hb_cl (by decide) hme b61_13 (by rw [key _ q]; exact m61_13) hg h0
    · exact Hb_T (by decide) k61 hg h0 (fun _ => q)
  · exact Hb_T (by decide) k61 hg h0 (fun z => absurd z hl)
theorem Hb_all (S : St) (h : StOk S) : sHb S := by
  obtain ⟨h2, h6, hrl, -, -, u, -, hg, -⟩ := h
  unfold sHb
  generalize sN S = n at h2 h6 hg
  generalize sRl S = rl at hrl
  generalize sC S = c at hg
  have hlo := lo_le (c := c)
  by_cases q : lo c = 1
  · exact Hb_lost q
  · have h0 : lo c = 0 := by omega
    have hn : n = 2 ∨ n = 3 ∨ n = 4 ∨ n = 5 ∨ n = 6 := by omega
    have hr : rl = 0 ∨ rl = 1 := by omega
    rcases hn with rfl | rfl | rfl | rfl | rfl
    · rcases hr with rfl | rfl
      · exact Hb_T (by decide) k20 hg h0 (fun _ => List.not_mem_nil)
      · exact Hb_T (by decide) k21 hg h0 (fun _ => List.not_mem_nil)
    · rcases hr with rfl | rfl
      · exact Hb_T (by decide) k30 hg h0 (fun _ => List.not_mem_nil)
      · exact Hb_T (by decide) k31 hg h0 (fun _ => List.not_mem_nil)
    · rcases hr with rfl | rfl
      · exact Hb_T (by decide) k40 hg h0 (fun _ => List.not_mem_nil)
      · exact Hb_T (by decide) k41 hg h0 (fun _ => List.not_mem_nil)
    · rcases hr with rfl | rfl
      · exact Hb_T (by decide) k50 hg h0 (fun _ => List.not_mem_nil)
      · exact Hb_T (by decide) k51 hg h0 (fun _ => List.not_mem_nil)
    · rcases hr with rfl | rfl
      · exact Hb_T (by decide) k60 hg h0 (fun _ => List.not_mem_nil)
      · exact hb_61 hg h0
