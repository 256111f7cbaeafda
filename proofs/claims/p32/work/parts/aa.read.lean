/-! what was told is read -/
theorem wnb8 : ∀ c, c < 256 → (nI c).toBitVec.toNat % 2 ^ 8 = c := by decide +kernel
theorem wtx_b {c : Nat × Nat} (h : wvd c) : ∀ b, b ∈ wtx c → b < 256 := by
  obtain ⟨a, v⟩ := c
  rcases h with ⟨h4, h5⟩ | ⟨h4, h5⟩
  · have h4 : 3 ≤ a := h4
    have h5 : a ≤ 7 := h5
    rcases (show a = 3 ∨ a = 4 ∨ a = 5 ∨ a = 6 ∨ a = 7 by omega) with e | e | e | e | e
    · subst e; exact (by decide : ∀ b, b ∈ [59] → b < 256)
    · subst e; exact (by decide : ∀ b, b ∈ [112, 111, 115, 116, 115] → b < 256)
    · subst e; exact (by decide : ∀ b, b ∈ [119, 97, 121] → b < 256)
    · subst e; exact (by decide : ∀ b, b ∈ [104, 101, 97, 112] → b < 256)
    · subst e; exact (by decide : ∀ b, b ∈ [99, 114, 111, 115, 115] → b < 256)
  · have h4 : a = 1 ∨ a = 2 := h4
    have h5 : v < 8 := h5
    intro b hb
    rcases h4 with e | e
    · subst e
      have hb : b ∈ [32, 114, 97 + v] := hb
      rcases List.mem_cons.mp hb with e | hb
      · omega
      · rcases List.mem_cons.mp hb with e | hb
        · omega
        · have := List.mem_singleton.mp hb; omega
    · subst e
      have hb : b ∈ [32, 48 + v] := hb
      rcases List.mem_cons.mp hb with e | hb
      · omega
      · have := List.mem_singleton.mp hb; omega
theorem wtt_b : ∀ (p : Nat) (ts : List (Nat × Nat)), wadj p ts → ∀ b, b ∈ wtt ts → b < 256
  | _, [], _, b, hb => absurd hb List.not_mem_nil
  | p, c :: cs, h, b, hb => by
    rcases List.mem_append.mp (show b ∈ wtx c ++ wtt cs from hb) with t | t
    · exact wtx_b h.2.1 b t
    · exact wtt_b c.1 cs h.2.2 b t
theorem wadj_m {k : Nat} (hk : k = 1 ∨ k = 2) {t : List (Nat × Nat)} (ht : wadj 3 t) : ∀ (l : List Nat) (p : Nat), (∀ q, q ∈ l → q < 8) → wadj p (l.map (fun q => (k, q)) ++ (3, 0) :: t)
  | [], p, _ => ⟨Or.inr (Or.inr (Or.inr rfl)), Or.inl ⟨Nat.le_refl 3, (by decide : 3 ≤ 7)⟩, ht⟩
  | q :: l, p, h => ⟨Or.inr (hk.imp id Or.inl), Or.inr ⟨hk, h q List.mem_cons_self⟩, wadj_m hk ht l k fun q' hq' => h q' (List.mem_cons_of_mem _ hq')⟩
theorem wadj_h {k : Nat} (h1 : 3 ≤ k) (h2 : k ≤ 7) {t : List (Nat × Nat)} (ht : wadj k t) : wadj 3 ((k, 0) :: t) := ⟨Or.inl rfl, Or.inl ⟨h1, h2⟩, ht⟩
theorem wadj_ss {n : Nat} (hn : n ≤ 8) {cr : List (Nat × Nat)} (hc : wadj 3 cr) : ∀ ss : List (Nat × List Nat), (∀ s, s ∈ ss → wsok n s) → wadj 3 (wss ss ++ cr)
  | [], _ => hc
  | s :: ss, h => by
    have ih := wadj_ss hn hc ss fun s' hs' => h s' (List.mem_cons_of_mem _ hs')
    obtain ⟨a, -, -, b⟩ := h s List.mem_cons_self
    show wadj 3 (((s.1, 0) :: (s.2.map (fun q => (1, q)) ++ [(3, 0)])) ++ wss ss ++ cr)
    rw [List.append_assoc, List.cons_append, List.append_assoc]
    exact wadj_h (by omega) (by omega) (wadj_m (Or.inl rfl) ih s.2 s.1 fun q hq => by have := b q hq; omega)
theorem wGood_adj {n : Nat} (hn : n ≤ 8) {ts : List (Nat × Nat)} (h : wGood n ts) : wadj 3 ts := by
  obtain ⟨ss, cr, e, -, hok, hcr⟩ := h
  have hc : wadj 3 cr := by
    rcases hcr with e | ⟨vs, ⟨-, -, v3, -⟩, e⟩
    · rw [e]; exact trivial
    · rw [e]
      exact wadj_h (by decide) (by decide) (wadj_m (Or.inr rfl) (t := []) trivial vs 7 fun q hq => by have := v3 q hq; omega)
  rw [e, List.cons_append, List.append_assoc]
  exact wadj_h (by decide) (by decide) (wadj_m (Or.inl rfl) (wadj_ss hn hc ss hok) (List.range n) 4 fun q hq => by have := List.mem_range.mp hq; omega)
theorem s_read {n : Nat} (hn : n ≤ 8) {n0 : Nat} {N : yNW} {h : Nat} {H : Nat → yNW} {hd : Nat → Prop} {K : Nat → yNW} {Z : xmm → Prop} {m : xmm} (hJ : wTJ n n0 N h H hd K Z m) : ∃ R, wR (0 : Int32) (wI n (R, 0) 0 H (fun _ => False) K 0 Z) (fX11_read_0 m) := by
  obtain ⟨ts, hG, c, t, z, hZ⟩ := hJ
  have hA := wGood_adj hn hG
  have hB := yzB_k (bt := wbl (wtt ts)) t.2.1
  have hb : ∀ j, yzB (wbl (wtt ts)) (wtt ts).length (0 + j) = (wtt ts).getD j 0 := fun j => by
    rw [Nat.zero_add]
    unfold yzB
    by_cases hj : j < (wtt ts).length
    · rw [if_pos hj]
      exact wnb8 _ (wtt_b 3 ts hA _ (wgm (fun x => x) 0 0 (wtt ts) j hj).2)
    · rw [if_neg hj, List.getD_eq_getElem?_getD, List.getElem?_eq_none (by omega)]
      rfl
  obtain ⟨f1, f2⟩ := wtoks hB ts 3 0 0 hA rfl hb (Nat.zero_add _).symm
  rw [Nat.zero_add] at f2
  obtain ⟨g1, g2, g3⟩ := wform (kd := yzd (yzB (wbl (wtt ts)) (wtt ts).length) (wtt ts).length) (nm := yznm (yzB (wbl (wtt ts)) (wtt ts).length) (wtt ts).length) (vl := yzvl (yzB (wbl (wtt ts)) (wtt ts).length) (wtt ts).length) hn hG (fun j hj => by
    have := f1 j hj
    rw [Nat.zero_add] at this
    exact this) (wend hB f2)
  have r0 : yaRd (wbl (wtt ts)) (wtt ts).length = 0 := by
    unfold yaRd yzF
    rw [yif_f (by rw [g1]; exact fun t => t rfl), yif_f (yzJ_0 fun j hj => by rw [g1] at hj; rw [g2]; exact g3 j hj)]
  have rn : yaN (wbl (wtt ts)) (wtt ts).length = n := by
    unfold yaN yzP
    rw [g2]
    rfl
  obtain ⟨m', e, h0, -, t0, -, lo⟩ := s_cRead c t
  have h1 := h0 r0
  rw [rn] at h1
  rw [r0] at e
  exact ⟨yaR (wbl (wtt ts)) (wtt ts).length, m', e, h1, t0.1, hZ m m' lo z, hZ⟩
