/-! the past and what is held: the model -/
def yNc (N : yNW) (r : Nat) : Nat := if r < 8 then N.1 r else N.2
def y9 (v base : Nat) (N : yNW) (m : xmm) : Prop := ∀ r, r < 9 → m.1 v (base + r) = nI (yNc N r)
theorem y9_8 {v : Nat} {N : yNW} {m : xmm} (h : y9 v 0 N m) : yrw v N.1 m ∧ m.1 v 8 = nI N.2 := ⟨fun p hp => by
  have := h p (by omega)
  rw [Nat.zero_add] at this
  rw [this]
  unfold yNc
  rw [if_pos hp], by
  have := h 8 (by decide)
  exact this⟩
theorem y9_of {v : Nat} {N : yNW} {m : xmm} (h1 : yrw v N.1 m) (h2 : m.1 v 8 = nI N.2) : y9 v 0 N m := fun r hr => by
  rw [Nat.zero_add]
  unfold yNc
  by_cases h : r < 8
  · rw [if_pos h]; exact h1 r h
  · have : r = 8 := by omega
    subst this
    rw [if_neg h]; exact h2
def yMPs (h : Nat) (H : Nat → yNW) (m : xmm) : Prop := ∃ e, e < 40 ∧ h ≤ 40 ∧ m.1 144 24 = nI e ∧ m.1 144 25 = nI h ∧ ∀ i, i < h → y9 156 (9 * ((e + h - 1 - i) % 40)) (H i) m
def yMHd (hd : Nat → Prop) (K : Nat → yNW) (m : xmm) : Prop := ∀ i, i < 3 → m.1 158 i = yP (hd i) ∧ (hd i → y9 157 (9 * i) (K i) m)
/-- the model -/
def yMM (n : Nat) (N : yNW) (h : Nat) (H : Nat → yNW) (hd : Nat → Prop) (K : Nat → yNW) (m : xmm) : Prop := m.1 144 17 = nI n ∧ y9 152 0 N m ∧ yMPs h H m ∧ yMHd hd K m
theorem yMM_n {n : Nat} {N : yNW} {h : Nat} {H : Nat → yNW} {hd : Nat → Prop} {K : Nat → yNW} {m : xmm} (hc : yMM n N h H hd K m) : yMN n N.1 m ∧ m.1 152 8 = nI N.2 := ⟨⟨hc.1, (y9_8 hc.2.1).1⟩, (y9_8 hc.2.1).2⟩
theorem y9_r {v base : Nat} {N : yNW} {L : List Nat} {m m' : xmm} (h : y9 v base N m) (hf : yfr L m m') (h1 : v ∉ L) : y9 v base N m' := fun r hr => by rw [yfr_1 hf v _ h1]; exact h r hr
/-- what the model's methods leave: the class, the script, the tape, the fields below 17 -/
def yMk (m m' : xmm) : Prop := yHi m m' ∧ (∀ i, i < 17 → m'.1 144 i = m.1 144 i) ∧ ∀ k, 145 ≤ k → k < 152 → (∀ i, m'.1 k i = m.1 k i) ∧ ∀ i, m'.2 k i = m.2 k i
theorem yMk_t {m m' m'' : xmm} (h : yMk m m') (h' : yMk m' m'') : yMk m m'' := ⟨yHi_t h.1 h'.1, fun i h4 => (h'.2.1 i h4).trans (h.2.1 i h4), fun k h1 h2 => ⟨fun i => ((h'.2.2 k h1 h2).1 i).trans ((h.2.2 k h1 h2).1 i), fun i => ((h'.2.2 k h1 h2).2 i).trans ((h.2.2 k h1 h2).2 i)⟩⟩
theorem yMk_r (m : xmm) : yMk m m := ⟨yHi_r m, fun _ _ => rfl, fun _ _ _ => ⟨fun _ => rfl, fun _ => rfl⟩⟩
theorem yMk_f {L J : List Nat} {m m' : xmm} (h : yfm L J m m') (hL : ∀ k, k ∈ L → 151 < k ∧ k < 1900) (hJ : ∀ j, j ∈ J → 17 ≤ j) : yMk m m' := ⟨yHi_of h.1 fun k hk => by
  rcases List.mem_cons.mp hk with e | e
  · omega
  · have := hL k e; omega, fun i hi => h.2 i fun t => by have := hJ i t; omega, fun k h1 h2 => h.1 k fun t => by
  rcases List.mem_cons.mp t with e | e
  · omega
  · have := hL k e; omega⟩
theorem yMk_of {L : List Nat} {m m' : xmm} (h : yfr L m m') (hL : ∀ k, k ∈ L → 151 < k ∧ k < 1900) : yMk m m' := yMk_f (J := []) (yfm_of h fun t => by have := hL 144 t; omega) hL (fun j hj => absurd hj List.not_mem_nil)
theorem y9_m {v base : Nat} {N : yNW} {L J : List Nat} {m m' : xmm} (h : y9 v base N m) (hf : yfm L J m m') (h1 : v ∉ 144 :: L) : y9 v base N m' := y9_r h hf.1 h1
theorem yMPs_f {h : Nat} {H : Nat → yNW} {L J : List Nat} {m m' : xmm} (hc : yMPs h H m) (hf : yfm L J m m') (h1 : 156 ∉ 144 :: L) (h2 : 24 ∉ J) (h3 : 25 ∉ J) : yMPs h H m' := by
  obtain ⟨e, e1, e2, e3, e4, e5⟩ := hc
  exact ⟨e, e1, e2, by rw [hf.2 24 h2]; exact e3, by rw [hf.2 25 h3]; exact e4, fun i hi => y9_m (e5 i hi) hf h1⟩
theorem yMHd_f {hd : Nat → Prop} {K : Nat → yNW} {L J : List Nat} {m m' : xmm} (hc : yMHd hd K m) (hf : yfm L J m m') (h1 : 157 ∉ 144 :: L) (h2 : 158 ∉ 144 :: L) : yMHd hd K m' := fun i hi => ⟨by rw [yfm_1 hf 158 i h2]; exact (hc i hi).1, fun h => y9_m ((hc i hi).2 h) hf h1⟩
theorem yMM_f {n : Nat} {N : yNW} {h : Nat} {H : Nat → yNW} {hd : Nat → Prop} {K : Nat → yNW} {L J : List Nat} {m m' : xmm} (hc : yMM n N h H hd K m) (hf : yfm L J m m') (hL : ∀ k, k ∈ L → 158 < k) (hJ : ∀ j, j ∈ J → 25 < j) : yMM n N h H hd K m' := by
  have o : ∀ k, k ≠ 144 → k ≤ 158 → k ∉ 144 :: L := by
    intro k h1 h2 t
    rcases List.mem_cons.mp t with e | e
    · exact h1 e
    · have := hL k e; omega
  have oj : ∀ j, j ≤ 25 → j ∉ J := fun j h1 t => by have := hJ j t; omega
  exact ⟨by rw [hf.2 17 (oj 17 (by omega))]; exact hc.1, y9_m hc.2.1 hf (o 152 (by omega) (by omega)), yMPs_f hc.2.2.1 hf (o 156 (by omega) (by omega)) (oj 24 (by omega)) (oj 25 (by omega)), yMHd_f hc.2.2.2 hf (o 157 (by omega) (by omega)) (o 158 (by omega) (by omega))⟩
theorem yMM_r {n : Nat} {N : yNW} {h : Nat} {H : Nat → yNW} {hd : Nat → Prop} {K : Nat → yNW} {L : List Nat} {m m' : xmm} (hc : yMM n N h H hd K m) (hf : yfr L m m') (hL : ∀ k, k ∈ L → 158 < k) : yMM n N h H hd K m' := yMM_f (J := []) hc (yfm_of hf fun t => by have := hL 144 t; omega) hL (fun j hj => absurd hj List.not_mem_nil)
