/-! the search: what the table holds -/
/-- reached by so many moves, none of them lost -/
def Rk (n rl ex c0 : Nat) : Nat → Nat → Prop
  | 0, x => x = c0
  | d + 1, x => ∃ c i, Rk n rl ex c0 d c ∧ i < n ∧ lg n ex c i = 1 ∧ x = mvc n rl c i ∧ lo x = 0
def Rch (n rl ex c0 x : Nat) : Prop := ∃ d, Rk n rl ex c0 d x
def Hb (n rl ex c0 : Nat) : Prop := ∀ L : List Nat, L.Nodup → (∀ x ∈ L, Rch n rl ex c0 x) → L.length ≤ 4095
theorem Rch_s {n rl ex c0 c i : Nat} (h : Rch n rl ex c0 c) (hi : i < n) (hl : lg n ex c i = 1) (ho : lo (mvc n rl c i) = 0) : Rch n rl ex c0 (mvc n rl c i) := by
  obtain ⟨d, hd⟩ := h
  exact ⟨d + 1, c, i, hd, hi, hl, rfl, ho⟩
def Tab (n rl ex u c0 : Nat) (lw mo fe : Nat → Nat) (L S : List Nat) : Prop :=
  L.Nodup ∧ (∀ x, x ∈ L → Gd n u x ∧ lo x = 0 ∧ Rch n rl ex c0 x) ∧ (∀ x, x ∈ L → lw (sot lw x) = x) ∧ (∀ s, s < 4096 → lw s ≠ 0 → lw s ∈ L) ∧ nz lw 4096 ≤ L.length ∧ (∀ s, s < 4096 → lw s = 0 → mo s = 0 ∧ fe s = 0) ∧
  (∀ x, x ∈ L → x ∉ S → mo (sot lw x) = Bv n rl ex x ∧ fe (sot lw x) = Fw n rl ex x ∧ ∀ i, i < n → lg n ex x i = 1 → lo (mvc n rl x i) = 0 → mvc n rl x i ∈ L)
theorem tab_find {n rl ex u c0 c : Nat} {lw mo fe : Nat → Nat} {L S : List Nat} (hT : Tab n rl ex u c0 lw mo fe L S) (hb : Hb n rl ex c0) (hg : Gd n u c) (h0 : 0 < u ∨ L = []) : (lw (sot lw c) = c ∧ c ≠ 0 ∧ c ∈ L) ∨ (lw (sot lw c) = 0 ∧ c ∉ L) := by
  obtain ⟨t1, t2, t3, t4, t5, t6, t7⟩ := hT
  have hlen := hb L t1 (fun x hx => (t2 x hx).2.2)
  have hin : lw (sot lw c) = 0 → c ∉ L := fun q hc => by
    have h1 := t3 c hc
    rcases h0 with h0 | h0
    · exact Gd_ne hg h0 (by rw [← h1, q])
    · rw [h0] at hc; cases hc
  rcases sot_end (lw := lw) (c := c) (nz_lt 4096 (by omega)) with q | q
  · exact Or.inr ⟨q, hin q⟩
  · by_cases z : c = 0
    · rw [z] at q
      rw [z] at hin
      rw [z]
      exact Or.inr ⟨q, hin q⟩
    · exact Or.inl ⟨q, z, by have := t4 _ (sot_lt lw c) (by rw [q]; exact z); rw [q] at this; exact this⟩
theorem tab_ins {n rl ex u c0 c : Nat} {lw mo fe : Nat → Nat} {L S : List Nat} (hT : Tab n rl ex u c0 lw mo fe L S) (hr : lw (sot lw c) = 0) (hn : c ∉ L) (hg : Gd n u c) (hlo : lo c = 0) (hR : Rch n rl ex c0 c) (h0 : 0 < u ∨ L = []) :
    Tab n rl ex u c0 (up lw (sot lw c) c) mo fe (c :: L) (c :: S) ∧ (∀ x, x ∈ L → sot (up lw (sot lw c) c) x = sot lw x) ∧ sot (up lw (sot lw c) c) c = sot lw c := by
  obtain ⟨t1, t2, t3, t4, t5, t6, t7⟩ := hT
  have hrl := sot_lt lw c
  have ne0 : ∀ x, x ∈ L → x ≠ 0 := fun x hx => by
    rcases h0 with h0 | h0
    · exact Gd_ne (t2 x hx).1 h0
    · rw [h0] at hx; cases hx
  have keep : ∀ x, x ∈ L → sot (up lw (sot lw c) c) x = sot lw x := fun x hx => so_keep hr (ne0 x hx) 4096 (hs x) (t3 x hx)
  have new : sot (up lw (sot lw c) c) c = sot lw c := so_new hr 4096 (hs c) rfl
  have far : ∀ x, x ∈ L → sot lw x ≠ sot lw c := fun x hx q => ne0 x hx (by rw [← t3 x hx, q, hr])
  refine ⟨⟨List.nodup_cons.mpr ⟨hn, t1⟩, fun x hx => ?_, fun x hx => ?_, fun s hs h => ?_, ?_, fun s hs h => ?_, fun x hx hxs => ?_⟩, keep, new⟩
  · rcases List.mem_cons.mp hx with rfl | hx
    · exact ⟨hg, hlo, hR⟩
    · exact t2 x hx
  · rcases List.mem_cons.mp hx with q | hx
    · rw [q, new, up_s]
    · rw [keep x hx, up_n (far x hx)]
      exact t3 x hx
  · by_cases q : s = sot lw c
    · rw [q, up_s]; exact List.mem_cons_self
    · rw [up_n q] at h ⊢
      exact List.mem_cons_of_mem _ (t4 s hs h)
  · have := nz_up (lw := lw) (r := sot lw c) (v := c) 4096
    rw [if_pos hrl] at this
    rw [List.length_cons]
    omega
  · by_cases q : s = sot lw c
    · rw [q]; exact t6 _ hrl hr
    · rw [up_n q] at h
      exact t6 s hs h
  · rcases List.mem_cons.mp hx with rfl | hx
    · exact absurd List.mem_cons_self hxs
    · obtain ⟨a1, a2, a3⟩ := t7 x hx (fun z => hxs (List.mem_cons_of_mem _ z))
      rw [keep x hx]
      exact ⟨a1, a2, fun i hi hl ho => List.mem_cons_of_mem _ (a3 i hi hl ho)⟩
theorem lg_z {n ex i : Nat} : lg n ex 0 i = 0 := by
  unfold lg
  rw [dg_z]
  exact if_neg (fun q => absurd q.2.1 (Nat.lt_irrefl _))
theorem Bv_z {n rl ex u : Nat} (h : Gd n u 0) : Bv n rl ex 0 = 0 ∧ Fw n rl ex 0 = 0 := by
  refine ⟨?_, ?_⟩
  · rw [Bv_eq h, fo_id n (fun k x hk => by unfold bz; rw [lg_z]; exact if_neg (by decide)), dg_z]
  · rw [Fw_eq h, fo_id n (fun k x hk => by unfold fz; rw [lg_z]; exact if_neg (by simp))]
    unfold f0
    rw [sm_z, if_pos rfl]
theorem tab_fin {n rl ex u c0 c : Nat} {lw mo fe : Nat → Nat} {L S : List Nat} (hT : Tab n rl ex u c0 lw mo fe L (c :: S)) (hc : c ∈ L) (hk : ∀ i, i < n → lg n ex c i = 1 → lo (mvc n rl c i) = 0 → mvc n rl c i ∈ L) :
    Tab n rl ex u c0 lw (up mo (sot lw c) (Bv n rl ex c)) (up fe (sot lw c) (Fw n rl ex c)) L S := by
  obtain ⟨t1, t2, t3, t4, t5, t6, t7⟩ := hT
  refine ⟨t1, t2, t3, t4, t5, fun s hs h => ?_, fun x hx hxs => ?_⟩
  · by_cases q : s = sot lw c
    · have hz : c = 0 := by rw [← t3 c hc, ← q, h]
      have hg := (t2 c hc).1
      rw [hz] at hg
      obtain ⟨b1, b2⟩ := Bv_z (rl := rl) (ex := ex) hg
      rw [q, up_s, up_s, hz]
      exact ⟨b1, b2⟩
    · rw [up_n q, up_n q]
      exact t6 s hs h
  · by_cases q : x = c
    · subst q
      rw [up_s, up_s]
      exact ⟨rfl, rfl, hk⟩
    · have far : sot lw x ≠ sot lw c := fun z => q (by rw [← t3 x hx, z, t3 c hc])
      rw [up_n far, up_n far]
      exact t7 x hx (fun z => (List.mem_cons.mp z).elim q hxs)
theorem Tb_in {J : oz_J} {lw mo fe : Nat → Nat} {r c : Nat} (h : Tb J lw mo fe) (hc : c < 2 ^ 30) (h1 : mo r = 0) (h2 : fe r = 0) : Tb (oz2 J 12 r (lN c)) (up lw r c) mo fe := by
  intro s hs
  obtain ⟨a1, a2, a3, a4⟩ := h s hs
  by_cases q : s = r
  · subst q
    rw [oz2_self, up_s]
    refine ⟨?_, hc, a3, a4⟩
    unfold en
    rw [up_s, h1, h2]
    simp
  · rw [oz2_ne q, up_n q]
    refine ⟨?_, a2, a3, a4⟩
    rw [a1]
    unfold en
    rw [up_n q]
theorem Tb_fin {J : oz_J} {lw mo fe : Nat → Nat} {r m f : Nat} (h : Tb J lw mo fe) (hm : m < 256) (hf : f < 256) : Tb (oz2 J 12 r (lN (f * 2 ^ 40 + m * 2 ^ 32 + lw r))) lw (up mo r m) (up fe r f) := by
  intro s hs
  obtain ⟨a1, a2, a3, a4⟩ := h s hs
  by_cases q : s = r
  · subst q
    rw [oz2_self, up_s, up_s]
    refine ⟨?_, a2, hm, hf⟩
    unfold en
    rw [up_s, up_s]
    congr 1
    omega
  · rw [oz2_ne q, up_n q, up_n q]
    refine ⟨?_, a2, a3, a4⟩
    rw [a1]
    unfold en
    rw [up_n q, up_n q]
theorem mx_ent {c m f : Nat} (hc : c < 2 ^ 30) (hm : m < 256) (hf : f < 256) : (nI f).toInt64 <<< ((nI 40).toInt64 &&& 63) ||| (nI m).toInt64 <<< ((nI 32).toInt64 &&& 63) ||| (nI c).toInt64 = lN (f * 2 ^ 40 + m * 2 ^ 32 + c) := by
  have d1 : f * 2 ^ 40 ||| m * 2 ^ 32 = f * 2 ^ 40 + m * 2 ^ 32 := by
    have h := Nat.two_pow_add_eq_or_of_lt (show m * 2 ^ 32 < 2 ^ 40 by omega) f
    rw [Nat.mul_comm (2 ^ 40) f] at h
    exact h.symm
  have d2 : (f * 2 ^ 40 + m * 2 ^ 32) ||| c = f * 2 ^ 40 + m * 2 ^ 32 + c := by
    have e : f * 2 ^ 40 + m * 2 ^ 32 = 2 ^ 32 * (f * 2 ^ 8 + m) := by omega
    have h := Nat.two_pow_add_eq_or_of_lt (show c < 2 ^ 32 by omega) (f * 2 ^ 8 + m)
    rw [e]
    exact h.symm
  rw [mx_i2l (show f < 2 ^ 31 by omega), mx_i2l (show m < 2 ^ 31 by omega), mx_i2l (show c < 2 ^ 31 by omega), wb_shl f (k := 40) (by decide), wb_shl m (k := 32) (by decide), wb_or (by omega) (by omega), d1, wb_or (by omega) (by omega), d2]
