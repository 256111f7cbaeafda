/-! one call of the LAW: class, then model -/
theorem yCI_x {n : Nat} {N : yNW} {h : Nat} {H : Nat → yNW} {hd : Nat → Prop} {K : Nat → yNW} {m m' : xmm} {L : List Nat} (hc : yCI n N h H hd K m) (hf : yfr L m m') (hL : ∀ k, k ∈ L → (1 ≤ k ∧ k ≤ 9) ∨ 144 ≤ k) : yCI n N h H hd K m' := by
  have o : ∀ k, k = 0 ∨ 10 ≤ k → k < 144 → k ∉ L := fun k h1 h2 t => by have := hL k t; omega
  obtain ⟨c1, c2, ⟨nx, p1, p2, p3, p4, p5⟩, ⟨d1, d2⟩, c5⟩ := hc
  refine ⟨c1, yNt_r c2 hf (o 10 (by decide) (by decide)) (o 11 (by decide) (by decide)), ⟨nx, by rw [yfr_1 hf 14 1 (o 14 (by decide) (by decide))]; exact p1, by rw [yfr_1 hf 14 2 (o 14 (by decide) (by decide))]; exact p2, p3, p4, fun i hi => ⟨yNt_r (p5 i hi).1 hf (o _ (by omega) (by omega)) (o _ (by omega) (by omega)), (p5 i hi).2⟩⟩, ⟨by rw [yfr_1 hf 0 5 (o 0 (by decide) (by decide))]; exact d1, fun i hi h2 => ⟨yNt_r (d2 i hi h2).1 hf (o _ (by omega) (by omega)) (o _ (by omega) (by omega)), (d2 i hi h2).2⟩⟩, ?_⟩
  rw [yfr_1 hf 0 6 (o 0 (by decide) (by decide))]
  refine c5.imp id fun t => ⟨t.1, yKc_r t.2 hf fun k hk => ?_⟩
  have b : ∀ k, k ∈ yKL → 10 ≤ k ∧ k < 144 := by decide
  have := b k hk
  exact o k (Or.inr this.1) this.2
theorem yHi_fr {m m' : xmm} (h : yHi m m') : yfr (List.range' 144 1756) m m' := fun k hk => h k (by
  rw [List.mem_range'_1] at hk
  omega)
theorem yLo_fr {m m' : xmm} (h : yLo m m') : yfr (List.range 144) m m' := fun k hk => h k (by
  rw [List.mem_range] at hk
  omega)
theorem yCI_hi {n : Nat} {N : yNW} {h : Nat} {H : Nat → yNW} {hd : Nat → Prop} {K : Nat → yNW} {m m' : xmm} (hc : yCI n N h H hd K m) (hf : yHi m m') : yCI n N h H hd K m' := yCI_x hc (yHi_fr hf) fun k hk => by
  rw [List.mem_range'_1] at hk
  omega
theorem yMM_lo {n : Nat} {N : yNW} {h : Nat} {H : Nat → yNW} {hd : Nat → Prop} {K : Nat → yNW} {m m' : xmm} (hc : yMM n N h H hd K m) (hf : yLo m m') : yMM n N h H hd K m' := by
  have o : ∀ k, 144 ≤ k → k ∉ List.range 144 := fun k h1 t => by rw [List.mem_range] at t; omega
  have o2 : ∀ k, 145 ≤ k → k ∉ 144 :: List.range 144 := fun k h1 t => by
    rcases List.mem_cons.mp t with e | e
    · omega
    · exact o k (by omega) e
  exact yMM_g hc (yfm_of (J := []) (yLo_fr hf) (o 144 (Nat.le_refl _))) (o2 152 (by decide)) (o2 156 (by decide)) (o2 157 (by decide)) (o2 158 (by decide)) (by decide) (by decide) (by decide)
/-- the class, the model, the script -/
def yZC (n : Nat) (N : yNW) (h : Nat) (H : Nat → yNW) (hd : Nat → Prop) (K : Nat → yNW) (len : Nat) (bt : Nat → Int32) (pl : Int32) (m : xmm) : Prop := yCI n N h H hd K m ∧ yTC len bt m ∧ m.1 1 3 = pl
def yZM (n : Nat) (N : yNW) (h : Nat) (H : Nat → yNW) (hd : Nat → Prop) (K : Nat → yNW) (len : Nat) (bt : Nat → Int32) (pl : Int32) (m : xmm) : Prop := yMM n N h H hd K m ∧ yTM len bt m ∧ m.1 144 16 = pl ∧ yKy m
def yZe (L : Nat) (xs : Nat → Int32) (m : xmm) : Prop := ∃ n N h H hd K len bt pl, yZC n N h H hd K len bt pl m ∧ yZM n N h H hd K len bt pl m ∧ yScr L xs m
theorem yTC_x {len : Nat} {bt : Nat → Int32} {m m' : xmm} (h : yTC len bt m) (h1 : ∀ i, m'.1 1 i = m.1 1 i) (h2 : ∀ i, m'.1 2 i = m.1 2 i) : yTC len bt m' := ⟨by rw [h1]; exact h.1, h.2.1, fun i hi => by rw [h2]; exact h.2.2 i hi⟩
theorem yTM_x {len : Nat} {bt : Nat → Int32} {m m' : xmm} (h : yTM len bt m) (h1 : m'.1 144 2 = m.1 144 2) (h2 : ∀ i, m'.1 145 i = m.1 145 i) : yTM len bt m' := ⟨by rw [h1]; exact h.1, h.2.1, fun i hi => by rw [h2]; exact h.2.2 i hi⟩
theorem yZC_hi {n : Nat} {N : yNW} {h : Nat} {H : Nat → yNW} {hd : Nat → Prop} {K : Nat → yNW} {len : Nat} {bt : Nat → Int32} {pl : Int32} {m m' : xmm} (hc : yZC n N h H hd K len bt pl m) (hf : yHi m m') : yZC n N h H hd K len bt pl m' := ⟨yCI_hi hc.1 hf, yTC_x hc.2.1 (hf 1 (Or.inl (by decide))).1 (hf 2 (Or.inl (by decide))).1, ((hf 1 (Or.inl (by decide))).1 3).trans hc.2.2⟩
theorem yZM_lo {n : Nat} {N : yNW} {h : Nat} {H : Nat → yNW} {hd : Nat → Prop} {K : Nat → yNW} {len : Nat} {bt : Nat → Int32} {pl : Int32} {m m' : xmm} (hc : yZM n N h H hd K len bt pl m) (hf : yLo m m') : yZM n N h H hd K len bt pl m' := ⟨yMM_lo hc.1 hf, yTM_x hc.2.1 ((hf 144 (by decide)).1 2) (hf 145 (by decide)).1, ((hf 144 (by decide)).1 16).trans hc.2.2.1, fun k hk => ((hf 151 (by decide)).2 k).trans (hc.2.2.2 k hk)⟩
theorem yScr_lo {L : Nat} {xs : Nat → Int32} {m m' : xmm} (h : yScr L xs m) (hf : yLo m m') : yScr L xs m' := ⟨((hf 1997 (by decide)).1 0).trans h.1, fun i hi => ((hf 1998 (by decide)).1 i).trans (h.2 i hi)⟩
theorem yScr_hi {L : Nat} {xs : Nat → Int32} {m m' : xmm} (h : yScr L xs m) (hf : yHi m m') : yScr L xs m' := ⟨((hf 1997 (Or.inr (by decide))).1 0).trans h.1, fun i hi => ((hf 1998 (Or.inr (by decide))).1 i).trans (h.2 i hi)⟩
/-- class behind a change, its tape and place as they were -/
theorem yZC_k {n : Nat} {N : yNW} {h : Nat} {H : Nat → yNW} {hd : Nat → Prop} {K : Nat → yNW} {len : Nat} {bt : Nat → Int32} {pl : Int32} {n' : Nat} {N' : yNW} {h' : Nat} {H' : Nat → yNW} {hd' : Nat → Prop} {K' : Nat → yNW} {m m' : xmm} (hc : yZC n N h H hd K len bt pl m) (hi : yCI n' N' h' H' hd' K' m') (hk : yCk m m') : yZC n' N' h' H' hd' K' len bt pl m' := ⟨hi, yTC_x hc.2.1 (hk.2 1 (by decide) (by decide)).1 (hk.2 2 (by decide) (by decide)).1, ((hk.2 1 (by decide) (by decide)).1 3).trans hc.2.2⟩
theorem yZM_k {n : Nat} {N : yNW} {h : Nat} {H : Nat → yNW} {hd : Nat → Prop} {K : Nat → yNW} {len : Nat} {bt : Nat → Int32} {pl : Int32} {n' : Nat} {N' : yNW} {h' : Nat} {H' : Nat → yNW} {hd' : Nat → Prop} {K' : Nat → yNW} {m m' : xmm} (hc : yZM n N h H hd K len bt pl m) (hi : yMM n' N' h' H' hd' K' m') (hk : yMk m m') : yZM n' N' h' H' hd' K' len bt pl m' := ⟨hi, yTM_x hc.2.1 (hk.2.1 2 (by decide)) (hk.2.2 145 (by decide) (by decide)).1, (hk.2.1 16 (by decide)).trans hc.2.2.1, fun k hk' => ((hk.2.2 151 (by decide) (by decide)).2 k).trans (hc.2.2.2 k hk')⟩
/-- both sides one after the other -/
theorem yz_go {n : Nat} {N : yNW} {h : Nat} {H : Nat → yNW} {hd : Nat → Prop} {K : Nat → yNW} {len : Nat} {bt : Nat → Int32} {pl : Int32} {n' : Nat} {N' : yNW} {h' : Nat} {H' : Nat → yNW} {hd' : Nat → Prop} {K' : Nat → yNW} {len' : Nat} {bt' : Nat → Int32} {pl' : Int32} {L : Nat} {xs : Nat → Int32} {m : xmm} {r : Int32} {F G : xmm → Option (Int32 × xmm)} (hM : yZM n N h H hd K len bt pl m) (hS : yScr L xs m) (hc : ∃ m1, F m = some (r, m1) ∧ yZC n' N' h' H' hd' K' len' bt' pl' m1 ∧ yLo m m1) (hm : ∀ m1, yZM n N h H hd K len bt pl m1 → ∃ m2, G m1 = some (r, m2) ∧ yZM n' N' h' H' hd' K' len' bt' pl' m2 ∧ yHi m1 m2) : ∃ r m1 m2, F m = some (r, m1) ∧ yScr L xs m1 ∧ G m1 = some (r, m2) ∧ yZe L xs m2 := by
  obtain ⟨m1, a1, a2, a3⟩ := hc
  obtain ⟨m2, b1, b2, b3⟩ := hm m1 (yZM_lo hM a3)
  have s1 := yScr_lo hS a3
  exact ⟨r, m1, m2, a1, s1, b1, n', N', h', H', hd', K', len', bt', pl', yZC_hi a2 b3, b2, yScr_hi s1 b3⟩
/-- a question -/
theorem yz_qu {n : Nat} {N : yNW} {h : Nat} {H : Nat → yNW} {hd : Nat → Prop} {K : Nat → yNW} {len : Nat} {bt : Nat → Int32} {pl : Int32} {L : Nat} {xs : Nat → Int32} {m : xmm} {r : Int32} {F G : xmm → Option (Int32 × xmm)} (hC : yZC n N h H hd K len bt pl m) (hM : yZM n N h H hd K len bt pl m) (hS : yScr L xs m) (hc : yCA n N h H hd K r (F m) m) (hm : ∀ m1, yMM n N h H hd K m1 → yTM len bt m1 → yMA n N h H hd K r (G m1) m1) : ∃ r m1 m2, F m = some (r, m1) ∧ yScr L xs m1 ∧ G m1 = some (r, m2) ∧ yZe L xs m2 := by
  obtain ⟨m1, a1, a2, a3⟩ := hc
  exact yz_go hM hS ⟨m1, a1, yZC_k hC a2 a3, a3.1⟩ fun m1 hM1 => by
    obtain ⟨m2, b1, b2, b3⟩ := hm m1 hM1.1 hM1.2.1
    exact ⟨m2, b1, yZM_k hM1 b2 b3, b3.1⟩
/-- a change -/
theorem yz_ch {n : Nat} {N : yNW} {h : Nat} {H : Nat → yNW} {hd : Nat → Prop} {K : Nat → yNW} {len : Nat} {bt : Nat → Int32} {pl : Int32} {n' : Nat} {N' : yNW} {h' : Nat} {H' : Nat → yNW} {hd' : Nat → Prop} {K' : Nat → yNW} {L : Nat} {xs : Nat → Int32} {m : xmm} {r : Int32} {F G : xmm → Option (Int32 × xmm)} (hC : yZC n N h H hd K len bt pl m) (hM : yZM n N h H hd K len bt pl m) (hS : yScr L xs m) (hc : ∃ m1, F m = some (r, m1) ∧ yCI n' N' h' H' hd' K' m1 ∧ yCk m m1) (hm : ∀ m1, yMM n N h H hd K m1 → ∃ m2, G m1 = some (r, m2) ∧ yMM n' N' h' H' hd' K' m2 ∧ yMk m1 m2) : ∃ r m1 m2, F m = some (r, m1) ∧ yScr L xs m1 ∧ G m1 = some (r, m2) ∧ yZe L xs m2 := by
  obtain ⟨m1, a1, a2, a3⟩ := hc
  exact yz_go hM hS ⟨m1, a1, yZC_k hC a2 a3, a3.1⟩ fun m1 hM1 => by
    obtain ⟨m2, b1, b2, b3⟩ := hm m1 hM1.1
    exact ⟨m2, b1, yZM_k hM1 b2 b3, b3.1⟩
