/-! the past and what is held, on both sides -/
def yKL : List Nat := [12, 13, 97, 101, 102, 103, 107, 108, 109, 113, 114, 115, 116, 120, 121, 122, 123, 124, 125, 126, 127]
/-- what the study keeps -/
def yKc (n : Nat) (N : yNW) (m : xmm) : Prop := yNt 12 13 n (yop n N.1, N.2) m ∧ yCS N.1 97 101 102 m ∧ yCS (yop n N.1) 103 107 108 m ∧ (yord (yad N.1) → yAI N.1 N.2 (yN N.1 N.2) 113 114 115 109 4 m ∧ yRK n (yT N.1 N.2) m) ∧ (yord (yad (yop n N.1)) → yAI (yop n N.1) 0 (yN (yop n N.1) 0) 120 121 122 116 4 m)
theorem yrw_r {v : Nat} {R : Nat → Nat} {L : List Nat} {m m' : xmm} (h : yrw v R m) (hf : yfr L m m') (h1 : v ∉ L) : yrw v R m' := fun p hp => by rw [yfr_1 hf v p h1]; exact h p hp
theorem yAI_r {R : Nat → Nat} {b i lf ab st ob fi : Nat} {L : List Nat} {m m' : xmm} (h : yAI R b i lf ab st ob fi m) (hf : yfr L m m') (h1 : lf ∉ L) (h2 : ab ∉ L) (h3 : st ∉ L) (h4 : ob ∉ L) : yAI R b i lf ab st ob fi m' := ⟨yrw_r h.1 hf h1, yrw_r h.2.1 hf h2, fun k a c d => by rw [yfr_1 hf st k h3]; exact h.2.2.1 k a c d, by rw [yfr_1 hf ob fi h4]; exact h.2.2.2.1, h.2.2.2.2⟩
theorem yCT_r {R : Nat → Nat} {tbl : Nat} {L : List Nat} {m m' : xmm} (h : yCT R tbl m) (hf : yfr L m m') (h1 : tbl ∉ L) : yCT R tbl m' := by
  have e : ∀ i, m'.1 tbl i = m.1 tbl i := fun i => yfr_1 hf tbl i h1
  unfold yCT at h ⊢
  simp only [e]
  exact h
theorem yCS_r {R : Nat → Nat} {ob rw_ tbl : Nat} {L : List Nat} {m m' : xmm} (h : yCS R ob rw_ tbl m) (hf : yfr L m m') (h1 : ob ∉ L) (h2 : rw_ ∉ L) (h3 : tbl ∉ L) : yCS R ob rw_ tbl m' := ⟨yrw_r h.1 hf h2, yCT_r h.2.1 hf h3, by rw [yfr_1 hf ob 3 h1]; exact h.2.2.1, by rw [yfr_1 hf ob 4 h1]; exact h.2.2.2⟩
theorem yRK_r {n : Nat} {T : yG} {L : List Nat} {m m' : xmm} (h : yRK n T m) (hf : yfr L m m') (h1 : 123 ∉ L) (h2 : 124 ∉ L) (h3 : 125 ∉ L) (h4 : 126 ∉ L) (h5 : 127 ∉ L) : yRK n T m' := ⟨⟨by rw [yfr_1 hf 123 6 h1]; exact h.1.1, yrw_r h.1.2.1 hf h2, yrw_r h.1.2.2 hf h3⟩, fun p hp => by rw [yfr_1 hf 126 p h4]; exact h.2.1 p hp, fun S hS => by rw [yfr_1 hf 127 S h5]; exact h.2.2 S hS⟩
theorem yKc_r {n : Nat} {N : yNW} {L : List Nat} {m m' : xmm} (h : yKc n N m) (hf : yfr L m m') (hL : ∀ k, k ∈ yKL → k ∉ L) : yKc n N m' := by
  have t : ∀ k, (yKL.contains k) = true → k ∉ L := fun k hk => hL k (List.contains_iff_mem.mp hk)
  exact ⟨yNt_r h.1 hf (t 12 rfl) (t 13 rfl), yCS_r h.2.1 hf (t 97 rfl) (t 101 rfl) (t 102 rfl), yCS_r h.2.2.1 hf (t 103 rfl) (t 107 rfl) (t 108 rfl), fun ho => ⟨yAI_r (h.2.2.2.1 ho).1 hf (t 113 rfl) (t 114 rfl) (t 115 rfl) (t 109 rfl), yRK_r (h.2.2.2.1 ho).2 hf (t 123 rfl) (t 124 rfl) (t 125 rfl) (t 126 rfl) (t 127 rfl)⟩, fun ho => yAI_r (h.2.2.2.2 ho) hf (t 120 rfl) (t 121 rfl) (t 122 rfl) (t 116 rfl)⟩
def yPst (n nx h : Nat) (H : Nat → yNW) (m : xmm) : Prop := m.1 14 1 = nI nx ∧ m.1 14 2 = nI h ∧ nx < 40 ∧ h ≤ 40 ∧ ∀ i, i < h → yNt (16 + 2 * ((nx + 39 - i) % 40)) (17 + 2 * ((nx + 39 - i) % 40)) n (H i) m ∧ yNv n (H i)
def yHd (n : Nat) (hd : Nat → Prop) (K : Nat → yNW) (m : xmm) : Prop := m.1 0 5 = nI (ybs hd 3) ∧ ∀ i, i < 3 → hd i → yNt (138 + 2 * i) (139 + 2 * i) n (K i) m ∧ yNv n (K i)
/-- the class -/
def yCI (n : Nat) (N : yNW) (h : Nat) (H : Nat → yNW) (hd : Nat → Prop) (K : Nat → yNW) (m : xmm) : Prop := yNv n N ∧ yNt 10 11 n N m ∧ (∃ nx, yPst n nx h H m) ∧ yHd n hd K m ∧ (m.1 0 6 = nI 0 ∨ (m.1 0 6 = nI 1 ∧ yKc n N m))
def yLo (m m' : xmm) : Prop := ∀ k, 144 ≤ k → (∀ i, m'.1 k i = m.1 k i) ∧ ∀ i, m'.2 k i = m.2 k i
def yHi (m m' : xmm) : Prop := ∀ k, k < 144 ∨ 1900 ≤ k → (∀ i, m'.1 k i = m.1 k i) ∧ ∀ i, m'.2 k i = m.2 k i
theorem yLo_t {m m' m'' : xmm} (h : yLo m m') (h' : yLo m' m'') : yLo m m'' := fun k hk => ⟨fun i => ((h' k hk).1 i).trans ((h k hk).1 i), fun i => ((h' k hk).2 i).trans ((h k hk).2 i)⟩
theorem yHi_t {m m' m'' : xmm} (h : yHi m m') (h' : yHi m' m'') : yHi m m'' := fun k hk => ⟨fun i => ((h' k hk).1 i).trans ((h k hk).1 i), fun i => ((h' k hk).2 i).trans ((h k hk).2 i)⟩
theorem yLo_of {L : List Nat} {m m' : xmm} (h : yfr L m m') (hL : ∀ k, k ∈ L → k < 144) : yLo m m' := fun k hk => h k fun e => absurd (hL k e) (by omega)
theorem yHi_of {L : List Nat} {m m' : xmm} (h : yfr L m m') (hL : ∀ k, k ∈ L → 144 ≤ k ∧ k < 1900) : yHi m m' := fun k hk => h k fun e => by have := hL k e; omega
theorem yLo_r (m : xmm) : yLo m m := fun _ _ => ⟨fun _ => rfl, fun _ => rfl⟩
theorem yHi_r (m : xmm) : yHi m m := fun _ _ => ⟨fun _ => rfl, fun _ => rfl⟩
/-- cells that a question may write -/
def yscr : List Nat := [98, 99, 100, 104, 105, 106, 110, 111, 112, 117, 118, 119, 128, 129, 130, 131, 132, 133, 134, 135, 136, 137]
theorem yscr_n {k : Nat} (h : k < 98 ∨ 137 < k) : k ∉ yscr := by
  intro t
  have : ∀ k, k ∈ yscr → 98 ≤ k ∧ k ≤ 137 := by decide
  have := this k t
  omega
theorem yCI_r {n : Nat} {N : yNW} {h : Nat} {H : Nat → yNW} {hd : Nat → Prop} {K : Nat → yNW} {m m' : xmm} (hc : yCI n N h H hd K m) (hf : yfr yscr m m') : yCI n N h H hd K m' := by
  obtain ⟨c1, c2, ⟨nx, p1, p2, p3, p4, p5⟩, ⟨d1, d2⟩, c5⟩ := hc
  refine ⟨c1, yNt_r c2 hf (by decide) (by decide), ⟨nx, by rw [yfr_1 hf 14 1 (by decide)]; exact p1, by rw [yfr_1 hf 14 2 (by decide)]; exact p2, p3, p4, fun i hi => ⟨yNt_r (p5 i hi).1 hf (yscr_n (by omega)) (yscr_n (by omega)), (p5 i hi).2⟩⟩, ⟨by rw [yfr_1 hf 0 5 (by decide)]; exact d1, fun i hi h2 => ⟨yNt_r (d2 i hi h2).1 hf (yscr_n (by omega)) (yscr_n (by omega)), (d2 i hi h2).2⟩⟩, ?_⟩
  rw [yfr_1 hf 0 6 (by decide)]
  exact c5.imp id fun t => ⟨t.1, yKc_r t.2 hf (by decide)⟩
def ypu (N : yNW) (H : Nat → yNW) : Nat → yNW := fun i => if i = 0 then N else H (i - 1)
def yhn (h : Nat) : Nat := if h < 40 then h + 1 else 40
theorem y40 {k : Nat} (h : k < 2000) : nI k - nI k / (40 : Int32) * (40 : Int32) = nI (k % 40) := by
  have e : (40 : Int32) = nI 40 := rfl
  rw [e, pk_div (by omega) (by omega), pk_mul, pk_sub (by omega)]
  · congr 1
    omega
  · decide
/-- the class keeps what is -/
theorem s_before {n : Nat} {N : yNW} {h : Nat} {H : Nat → yNW} {hd : Nat → Prop} {K : Nat → yNW} {m : xmm} (hc : yCI n N h H hd K m) : ∃ m', fX11_beforeChange_0 m = some m' ∧ yCI n N (yhn h) (ypu N H) hd K m' ∧ m'.1 0 6 = nI 0 ∧ yLo m m' ∧ (∀ k, k < 10 → k ≠ 0 → (∀ i, m'.1 k i = m.1 k i) ∧ ∀ i, m'.2 k i = m.2 k i) := by
  obtain ⟨c1, c2, ⟨nx, p1, p2, p3, p4, p5⟩, ⟨d1, d2⟩, c5⟩ := hc
  obtain ⟨m1, e1, e2, e3⟩ := s_copyFrom (ynet_r p3) ynet10 (by omega) (by omega) (by omega) (by omega) c1.2 c2
  have out : ∀ k, k < 16 ∨ 96 ≤ k ∨ (k ≠ 16 + 2 * nx ∧ k ≠ 17 + 2 * nx) → k ∉ [16 + 2 * nx, 17 + 2 * nx] := by
    intro k hk t
    rcases List.mem_cons.mp t with e | e
    · omega
    · have := List.mem_singleton.mp e; omega
  have f2 : yfr [0, 14] m1 (xwi (xwi (xwi m1 14 1 (nI ((nx + 1) % 40))) 14 2 (nI (yhn h))) 0 6 (nI 0)) := yfr_w (yfr_w (yfr_w yfr_r (by decide)) (by decide)) (by decide)
  have o2 : ∀ k, k ≠ 0 → k ≠ 14 → k ∉ [0, 14] := by
    intro k h1 h2 t
    rcases List.mem_cons.mp t with e | e
    · exact h1 e
    · exact h2 (List.mem_singleton.mp e)
  refine ⟨xwi (xwi (xwi m1 14 1 (nI ((nx + 1) % 40))) 14 2 (nI (yhn h))) 0 6 (nI 0), ?_, ⟨c1, ?_, ⟨(nx + 1) % 40, ?_, ?_, by omega, by unfold yhn; split <;> omega, fun i hi => ?_⟩, ⟨?_, fun i hi h2 => ⟨?_, (d2 i hi h2).2⟩⟩, Or.inl (xwi_e _ _ _ _)⟩, xwi_e _ _ _ _, ?_, ?_⟩
  · have keep : fX4_keep_14_10 m = some (xwi (xwi m1 14 1 (nI ((nx + 1) % 40))) 14 2 (nI (yhn h))) := by
      obtain ⟨a1, a2, a3, a4, a5⟩ := ynet_r p3
      apply fX4_keep_14_10_i
      have x1 : m1.1 14 1 = nI nx := by rw [yfr_1 e3 14 1 (out 14 (by omega))]; exact p1
      have x2 : m1.1 14 2 = nI h := by rw [yfr_1 e3 14 2 (out 14 (by omega))]; exact p2
      have x3 : (xwi m1 14 1 (nI ((nx + 1) % 40))).1 14 2 = nI h := by rw [xwi_i (by decide)]; exact x2
      have i40 : xinb 40 (nI nx) = true := xinb_t p3 (by decide)
      have e4 : nI nx + (1 : Int32) = nI (nx + 1) := nI_1 nx
      have e5 : nI h + (1 : Int32) = nI (h + 1) := nI_1 h
      have e40 : (40 : Int32) = nI 40 := rfl
      rw [p1, i40, nI_clamp (by omega), yringR nx p3]
      simp only [xgd_t, xgr, e1, Option.bind_some, a2, x1, xlt_e, nI_1, y40 (show nx + 1 < 2000 by omega), x3]
      have e6 : (if (40 : Int32) < nI (h + 1) then (40 : Int32) else nI (h + 1)) = nI (yhn h) := by
        unfold yhn
        by_cases hh : h < 40
        · rw [if_pos hh, if_neg]
          rw [e40, nI_ltI (by omega) (by omega)]
          omega
        · rw [if_neg hh, if_pos, e40]
          rw [e40, nI_ltI (by omega) (by omega)]
          omega
      rw [e6]
    apply fX11_beforeChange_0_i
    rw [keep]
    rfl
  · exact yNt_r (yNt_r c2 e3 (out 10 (by omega)) (out 11 (by omega))) f2 (by decide) (by decide)
  · rw [xwi_k (by decide), xwi_i (by decide), xwi_e]
  · rw [xwi_k (by decide), xwi_e]
  · have hh : i < yhn h := hi
    unfold yhn at hh
    by_cases e : i = 0
    · subst e
      have en : ((nx + 1) % 40 + 39 - 0) % 40 = nx := by omega
      rw [en]
      exact ⟨yNt_r e2 f2 (o2 _ (by omega) (by omega)) (o2 _ (by omega) (by omega)), c1⟩
    · have hi2 : i < 40 ∧ i - 1 < h := by split at hh <;> omega
      have en : ((nx + 1) % 40 + 39 - i) % 40 = (nx + 39 - (i - 1)) % 40 := by omega
      have ne : (nx + 39 - (i - 1)) % 40 ≠ nx := by omega
      have old := p5 (i - 1) hi2.2
      rw [en]
      have ep : ypu N H i = H (i - 1) := if_neg e
      rw [ep]
      exact ⟨yNt_r (yNt_r old.1 e3 (out _ (by omega)) (out _ (by omega))) f2 (o2 _ (by omega) (by omega)) (o2 _ (by omega) (by omega)), old.2⟩
  · rw [xwi_i (by decide), xwi_k (by decide), xwi_k (by decide), yfr_1 e3 0 5 (out 0 (by omega))]; exact d1
  · exact yNt_r (yNt_r (d2 i hi h2).1 e3 (out _ (by omega)) (out _ (by omega))) f2 (o2 _ (by omega) (by omega)) (o2 _ (by omega) (by omega))
  · intro k hk
    have a := e3 k (out k (by omega))
    have b := f2 k (o2 k (by omega) (by omega))
    exact ⟨fun i => (b.1 i).trans (a.1 i), fun i => (b.2 i).trans (a.2 i)⟩
  · intro k hk hk0
    have a := e3 k (out k (by omega))
    have b := f2 k (o2 k hk0 (by omega))
    exact ⟨fun i => (b.1 i).trans (a.1 i), fun i => (b.2 i).trans (a.2 i)⟩
theorem yCI_net {n : Nat} {N N' : yNW} {h : Nat} {H : Nat → yNW} {hd : Nat → Prop} {K : Nat → yNW} {m m' : xmm} (hc : yCI n N h H hd K m) (h0 : m.1 0 6 = nI 0) (hf : yfr [10, 11] m m') (hN : yNt 10 11 n N' m') (hv : yNv n N') : yCI n N' h H hd K m' := by
  obtain ⟨c1, c2, ⟨nx, p1, p2, p3, p4, p5⟩, ⟨d1, d2⟩, c5⟩ := hc
  have o : ∀ k, k ≠ 10 → k ≠ 11 → k ∉ [10, 11] := by
    intro k h1 h2 t
    rcases List.mem_cons.mp t with e | e
    · exact h1 e
    · exact h2 (List.mem_singleton.mp e)
  exact ⟨hv, hN, ⟨nx, by rw [yfr_1 hf 14 1 (by decide)]; exact p1, by rw [yfr_1 hf 14 2 (by decide)]; exact p2, p3, p4, fun i hi => ⟨yNt_r (p5 i hi).1 hf (o _ (by omega) (by omega)) (o _ (by omega) (by omega)), (p5 i hi).2⟩⟩, ⟨by rw [yfr_1 hf 0 5 (by decide)]; exact d1, fun i hi h2 => ⟨yNt_r (d2 i hi h2).1 hf (o _ (by omega) (by omega)) (o _ (by omega) (by omega)), (d2 i hi h2).2⟩⟩, Or.inl (by rw [yfr_1 hf 0 6 (by decide)]; exact h0)⟩
def yRd (m m' : xmm) : Prop := ∀ k, k < 10 → k ≠ 0 → (∀ i, m'.1 k i = m.1 k i) ∧ ∀ i, m'.2 k i = m.2 k i
theorem yRd_t {m m' m'' : xmm} (h : yRd m m') (h' : yRd m' m'') : yRd m m'' := fun k hk h0 => ⟨fun i => ((h' k hk h0).1 i).trans ((h k hk h0).1 i), fun i => ((h' k hk h0).2 i).trans ((h k hk h0).2 i)⟩
theorem yRd_of {L : List Nat} {m m' : xmm} (h : yfr L m m') (hL : ∀ k, k ∈ L → 10 ≤ k ∨ k = 0) : yRd m m' := fun k hk h0 => h k fun e => by have := hL k e; omega
theorem yRd_r (m : xmm) : yRd m m := fun _ _ _ => ⟨fun _ => rfl, fun _ => rfl⟩
/-- what a class's method does beside the answer: the reader's cells and the model's stay -/
def yCk (m m' : xmm) : Prop := yLo m m' ∧ yRd m m'
theorem yCk_t {m m' m'' : xmm} (h : yCk m m') (h' : yCk m' m'') : yCk m m'' := ⟨yLo_t h.1 h'.1, yRd_t h.2 h'.2⟩
theorem yCk_r (m : xmm) : yCk m m := ⟨yLo_r m, yRd_r m⟩
theorem yCk_of {L : List Nat} {m m' : xmm} (h : yfr L m m') (hL : ∀ k, k ∈ L → (10 ≤ k ∨ k = 0) ∧ k < 144) : yCk m m' := ⟨yLo_of h fun k hk => (hL k hk).2, yRd_of h fun k hk => (hL k hk).1⟩
/-- UNDO, the class -/
theorem s_cUndo {n : Nat} {N : yNW} {h : Nat} {H : Nat → yNW} {hd : Nat → Prop} {K : Nat → yNW} {m : xmm} (hc : yCI n N h H hd K m) : ∃ m', fX11_undo_0 m = some (yP (h ≠ 0), m') ∧ (h = 0 → yCI n N h H hd K m') ∧ (h ≠ 0 → yCI n (H 0) (h - 1) (fun i => H (i + 1)) hd K m') ∧ yCk m m' := by
  obtain ⟨c1, c2, ⟨nx, p1, p2, p3, p4, p5⟩, ⟨d1, d2⟩, c5⟩ := hc
  have o0 : ∀ k, k ≠ 0 → k ∉ [0] := fun k h1 t => h1 (List.mem_singleton.mp t)
  have f0 : yfr [0] m (xwi m 0 6 (0 : Int32)) := yfr_w yfr_r (by decide)
  have q2 : (xwi m 0 6 (0 : Int32)).1 14 2 = nI h := by rw [xwi_k (by decide)]; exact p2
  have q1 : (xwi m 0 6 (0 : Int32)).1 14 1 = nI nx := by rw [xwi_k (by decide)]; exact p1
  by_cases h0 : h = 0
  · subst h0
    refine ⟨xwi m 0 6 (0 : Int32), ?_, fun _ => ⟨c1, yNt_r c2 f0 (by decide) (by decide), ⟨nx, q1, q2, p3, p4, fun i hi => absurd hi (Nat.not_lt_zero i)⟩, ⟨by rw [xwi_i (by decide)]; exact d1, fun i hi h2 => ⟨yNt_r (d2 i hi h2).1 f0 (o0 _ (by omega)) (o0 _ (by omega)), (d2 i hi h2).2⟩⟩, Or.inl (xwi_e _ _ _ _)⟩, fun t => absurd rfl t, yCk_of f0 (by decide)⟩
    rw [yP_f (fun t => t rfl)]
    apply fX11_undo_0_i
    have tb : fX4_takeBack_14_10 (xwi m 0 6 (0 : Int32)) = some (0, xwi m 0 6 (0 : Int32)) := by
      apply fX4_takeBack_14_10_i
      rw [q2]
      exact if_pos rfl
    rw [xlt_e, tb]
    rfl
  · have pos : nx + 39 - 0 = nx + 39 := rfl
    have hj : (nx + 39) % 40 < 40 := by omega
    have e40 : (40 : Int32) = nI 40 := rfl
    have f2 : yfr [0, 14] m (xwi (xwi (xwi m 0 6 (0 : Int32)) 14 2 (nI (h - 1))) 14 1 (nI ((nx + 39) % 40))) := yfr_w (yfr_w (yfr_w yfr_r (by decide)) (by decide)) (by decide)
    have o2 : ∀ k, k ≠ 0 → k ≠ 14 → k ∉ [0, 14] := by
      intro k h1 h2 t
      rcases List.mem_cons.mp t with e | e
      · exact h1 e
      · exact h2 (List.mem_singleton.mp e)
    have old := p5 0 (by omega)
    obtain ⟨m1, e1, e2, e3⟩ := s_copyFrom ynet10 (ynet_r hj) (by omega) (by omega) (by omega) (by omega) old.2.2 (yNt_r old.1 f2 (o2 _ (by omega) (by omega)) (o2 _ (by omega) (by omega)))
    have o : ∀ k, k ≠ 10 → k ≠ 11 → k ∉ [10, 11] := by
      intro k h1 h2 t
      rcases List.mem_cons.mp t with e | e
      · exact h1 e
      · exact h2 (List.mem_singleton.mp e)
    refine ⟨m1, ?_, fun t => absurd t h0, fun _ => ⟨old.2, e2, ⟨(nx + 39) % 40, ?_, ?_, hj, by omega, fun i hi => ?_⟩, ⟨?_, fun i hi h2 => ⟨yNt_r (yNt_r (d2 i hi h2).1 f2 (o2 _ (by omega) (by omega)) (o2 _ (by omega) (by omega))) e3 (o _ (by omega) (by omega)) (o _ (by omega) (by omega)), (d2 i hi h2).2⟩⟩, Or.inl ?_⟩, yCk_t (yCk_of f2 (by decide)) (yCk_of e3 (by decide))⟩
    · rw [yP_t h0]
      apply fX11_undo_0_i
      have tb : fX4_takeBack_14_10 (xwi m 0 6 (0 : Int32)) = some (1, m1) := by
        apply fX4_takeBack_14_10_i
        have z : ¬ nI h = 0 := fun t => h0 ((yc0_eq (by omega)).mp t)
        have w1 : (xwi (xwi m 0 6 (0 : Int32)) 14 2 (nI (h - 1))).1 14 1 = nI nx := by rw [xwi_i (by decide)]; exact q1
        have w2 : nI nx + (40 : Int32) - (1 : Int32) = nI (nx + 39) := by
          rw [e40, nI_add, yc1_sb (by omega)]
          congr 1
        rw [q2, if_neg z, xlt_e, yc1_sb (by omega), xlt_e, w1, w2, y40 (by omega), xwi_e, xinb_t hj (by decide), nI_clamp (by omega), yringR _ hj]
        simp only [xgd_t, xgr, e1, Option.bind_some]
      rw [xlt_e, tb]
      rfl
    · rw [yfr_1 e3 14 1 (by decide), xwi_e]
    · rw [yfr_1 e3 14 2 (by decide), xwi_i (by decide), xwi_e]
    · have en : ((nx + 39) % 40 + 39 - i) % 40 = (nx + 39 - (i + 1)) % 40 := by omega
      have t := p5 (i + 1) (by omega)
      rw [en]
      exact ⟨yNt_r (yNt_r t.1 f2 (o2 _ (by omega) (by omega)) (o2 _ (by omega) (by omega))) e3 (o _ (by omega) (by omega)) (o _ (by omega) (by omega)), t.2⟩
    · rw [yfr_1 e3 0 5 (by decide), xwi_k (by decide), xwi_k (by decide), xwi_i (by decide)]; exact d1
    · rw [yfr_1 e3 0 6 (by decide), xwi_k (by decide), xwi_k (by decide), xwi_e]; rfl
/-! held -/
def ySl (x : Int32) : Prop := ∃ i, i < 3 ∧ x = nI i
theorem s_sl (x : Int32) : x < 0 ∨ (∃ i, i < 3 ∧ x = nI i) ∨ ∃ p, 3 ≤ p ∧ p < 2 ^ 31 ∧ x = nI p := by
  by_cases h : x < 0
  · exact Or.inl h
  · obtain ⟨p, p1, p2⟩ := nI_of h
    by_cases hp : p < 3
    · exact Or.inr (Or.inl ⟨p, hp, p2⟩)
    · exact Or.inr (Or.inr ⟨p, by omega, p1, p2⟩)
def yhu (hd : Nat → Prop) (i : Nat) : Nat → Prop := fun j => hd j ∨ j = i
def yku (K : Nat → yNW) (i : Nat) (N : yNW) : Nat → yNW := fun j => if j = i then N else K j
theorem s_cHold {n : Nat} {N : yNW} {h : Nat} {H : Nat → yNW} {hd : Nat → Prop} {K : Nat → yNW} {m : xmm} (hc : yCI n N h H hd K m) (x : Int32) : ∃ m', fX11_hold_0 x m = some (yP (ySl x), m') ∧ (∀ i, i < 3 → x = nI i → yCI n N h H (yhu hd i) (yku K i N) m') ∧ (¬ ySl x → m' = m) ∧ yCk m m' := by
  rcases s_sl x with hx | ⟨i, hi, hx⟩ | ⟨p, p1, p2, hx⟩
  · have no : ¬ ySl x := fun ⟨i, i1, i2⟩ => by rw [i2] at hx; exact nI_pos (by omega) hx
    refine ⟨m, ?_, fun i hi e => absurd ⟨i, hi, e⟩ no, fun _ => rfl, yCk_r m⟩
    rw [yP_f no]
    apply fX11_hold_0_i
    exact if_pos hx
  · subst hx
    obtain ⟨c1, c2, ⟨nx, q1, q2, q3, q4, q5⟩, ⟨d1, d2⟩, c5⟩ := hc
    obtain ⟨m1, e1, e2, e3⟩ := s_copyFrom (ynet_s hi) ynet10 (by omega) (by omega) (by omega) (by omega) c1.2 c2
    have bl := ybs_lt hd 3
    have f2 : yfr [0] m1 (xwi m1 0 5 (nI (ybs (yhu hd i) 3))) := yfr_w yfr_r (by decide)
    have o0 : ∀ k, k ≠ 0 → k ∉ [0] := fun k h1 t => h1 (List.mem_singleton.mp t)
    have o : ∀ k, k ≠ 138 + 2 * i → k ≠ 139 + 2 * i → k ∉ [138 + 2 * i, 139 + 2 * i] := by
      intro k h1 h2 t
      rcases List.mem_cons.mp t with e | e
      · exact h1 e
      · exact h2 (List.mem_singleton.mp e)
    have ck1 : yCk m m1 := ⟨fun k hk => e3 k (o k (by omega) (by omega)), fun k hk _ => e3 k (o k (by omega) (by omega))⟩
    refine ⟨xwi m1 0 5 (nI (ybs (yhu hd i) 3)), ?_, fun j hj e => ?_, fun t => absurd ⟨i, hi, rfl⟩ t, yCk_t ck1 (yCk_of f2 (by decide))⟩
    · rw [yP_t ⟨i, hi, rfl⟩]
      obtain ⟨a1, a2, a3, a4, a5⟩ := ynet_s hi
      have w : (m1.1 0 5 ||| (1 : Int32) <<< (nI i &&& 31)) = nI (ybs (yhu hd i) 3) := by
        rw [yfr_1 e3 0 5 (o 0 (by omega) (by omega)), d1, yI_1shl (by omega), yI_or]
        congr 1
        apply ytb_ext
        intro q
        refine yb_or.trans (Iff.trans ?_ yb_bs.symm)
        rw [yb_bs, yb_pw]
        unfold yhu
        constructor
        · rintro (⟨t1, t2⟩ | t)
          · exact ⟨t1, Or.inl t2⟩
          · exact ⟨by omega, Or.inr t⟩
        · rintro ⟨t1, t2 | t2⟩
          · exact Or.inl ⟨t1, t2⟩
          · exact Or.inr t2
      apply fX11_hold_0_i
      have e3' : (3 : Int32) = nI 3 := rfl
      have lt3 : nI i < (3 : Int32) := by rw [e3', nI_ltI (by omega) (by omega)]; exact hi
      rw [if_neg (nI_pos (by omega)), if_pos lt3, xinb_t hi (by decide), nI_clamp (by omega), yslotR i hi]
      simp only [xgd_t, xgr, e1, Option.bind_some, a2, w, xlt_e]
    · have eij : j = i := ((nI_eq (by omega) (by omega)).mp e).symm
      subst eij
      refine ⟨c1, yNt_r (yNt_r c2 e3 (o _ (by omega) (by omega)) (o _ (by omega) (by omega))) f2 (by decide) (by decide), ⟨nx, ?_, ?_, q3, q4, fun k hk => ⟨yNt_r (yNt_r (q5 k hk).1 e3 (o _ (by omega) (by omega)) (o _ (by omega) (by omega))) f2 (o0 _ (by omega)) (o0 _ (by omega)), (q5 k hk).2⟩⟩, ⟨xwi_e _ _ _ _, fun k hk h2 => ?_⟩, ?_⟩
      · rw [xwi_k (by decide), yfr_1 e3 14 1 (o _ (by omega) (by omega))]; exact q1
      · rw [xwi_k (by decide), yfr_1 e3 14 2 (o _ (by omega) (by omega))]; exact q2
      · unfold yku
        by_cases ek : k = j
        · subst ek
          rw [if_pos rfl]
          exact ⟨yNt_r e2 f2 (o0 _ (by omega)) (o0 _ (by omega)), c1⟩
        · rw [if_neg ek]
          have h3 : hd k := h2.elim id fun t => absurd t ek
          exact ⟨yNt_r (yNt_r (d2 k hk h3).1 e3 (o _ (by omega) (by omega)) (o _ (by omega) (by omega))) f2 (o0 _ (by omega)) (o0 _ (by omega)), (d2 k hk h3).2⟩
      · rw [xwi_i (by decide), yfr_1 e3 0 6 (o _ (by omega) (by omega))]
        refine c5.imp id fun t => ⟨t.1, yKc_r (yKc_r t.2 e3 fun k hk => ?_) f2 (by decide)⟩
        have : ∀ k, k ∈ yKL → k < 138 := by decide
        have := this k hk
        exact o _ (by omega) (by omega)
  · have no : ¬ ySl x := fun ⟨i, i1, i2⟩ => by rw [hx] at i2; have := (nI_eq p2 (by omega)).mp i2; omega
    refine ⟨m, ?_, fun i hi e => absurd ⟨i, hi, e⟩ no, fun _ => rfl, yCk_r m⟩
    rw [yP_f no]
    apply fX11_hold_0_i
    have e3' : (3 : Int32) = nI 3 := rfl
    have lt3 : ¬ x < (3 : Int32) := by rw [hx, e3', nI_ltI p2 (by omega)]; omega
    rw [if_neg (by rw [hx]; exact nI_pos p2), if_neg lt3]
def yIsH (hd : Nat → Prop) (x : Int32) : Prop := ∃ i, i < 3 ∧ x = nI i ∧ hd i
theorem s_heldIn {n : Nat} {hd : Nat → Prop} {K : Nat → yNW} {m : xmm} (hh : yHd n hd K m) (x : Int32) : (∀ i, i < 3 → x = nI i → hd i → fX11_heldIn_0 x m = some (138 + 2 * i + 1, m)) ∧ (¬ yIsH hd x → fX11_heldIn_0 x m = some (0, m)) := by
  have e3' : (3 : Int32) = nI 3 := rfl
  have bl := ybs_lt hd 3
  constructor
  · intro i hi hx h2
    subst hx
    obtain ⟨a1, a2, a3, a4, a5⟩ := ynet_s hi
    have le3 : ¬ (3 : Int32) ≤ nI i := by rw [e3', nI_leI (by omega) (by omega)]; omega
    have hb : (ybs hd 3).testBit i = true := yb_bs.mpr ⟨hi, h2⟩
    have n1 : ¬ (1 : Int32) = 0 := by decide
    apply fX11_heldIn_0_i
    rw [if_neg (nI_pos (by omega)), if_neg le3, hh.1, s_contains (by omega) (by omega), Option.bind_some, yP_t hb, if_neg n1, xinb_t hi (by decide), nI_clamp (by omega), yslotR i hi]
    simp only [xgd_t, xgr, a1, Bool.not_false]
  · intro no
    apply fX11_heldIn_0_i
    rcases s_sl x with hx | ⟨i, hi, hx⟩ | ⟨p, p1, p2, hx⟩
    · exact if_pos hx
    · subst hx
      have le3 : ¬ (3 : Int32) ≤ nI i := by rw [e3', nI_leI (by omega) (by omega)]; omega
      have hb : ¬ (ybs hd 3).testBit i = true := fun t => no ⟨i, hi, rfl, (yb_bs.mp t).2⟩
      rw [if_neg (nI_pos (by omega)), if_neg le3, hh.1, s_contains (by omega) (by omega), Option.bind_some, yP_f hb, if_pos rfl]
    · subst hx
      have le3 : (3 : Int32) ≤ nI p := by rw [e3', nI_leI (by omega) p2]; exact p1
      rw [if_neg (nI_pos p2), if_pos le3]
theorem s_cRestore {n : Nat} {N : yNW} {h : Nat} {H : Nat → yNW} {hd : Nat → Prop} {K : Nat → yNW} {m : xmm} (hc : yCI n N h H hd K m) (x : Int32) : ∃ m', fX11_restore_0 x m = some (yP (yIsH hd x), m') ∧ (∀ i, i < 3 → x = nI i → hd i → yCI n (K i) 0 H hd K m') ∧ (¬ yIsH hd x → m' = m) ∧ yCk m m' := by
  obtain ⟨hi1, hi2⟩ := s_heldIn hc.2.2.2.1 x
  by_cases hx : yIsH hd x
  · obtain ⟨i, hi, ex, h2⟩ := hx
    subst ex
    obtain ⟨c1, c2, ⟨nx, q1, q2, q3, q4, q5⟩, ⟨d1, d2⟩, c5⟩ := hc
    obtain ⟨a1, a2, a3, a4, a5⟩ := ynet_s hi
    obtain ⟨m1, e1, e2, e3⟩ := s_copyFrom ynet10 (ynet_s hi) (by omega) (by omega) (by omega) (by omega) (d2 i hi h2).2.2 (d2 i hi h2).1
    have o : ∀ k, k ≠ 10 → k ≠ 11 → k ∉ [10, 11] := by
      intro k h1 h2 t
      rcases List.mem_cons.mp t with e | e
      · exact h1 e
      · exact h2 (List.mem_singleton.mp e)
    have o2 : ∀ k, k ≠ 0 → k ≠ 14 → k ∉ [0, 14] := by
      intro k h1 h2 t
      rcases List.mem_cons.mp t with e | e
      · exact h1 e
      · exact h2 (List.mem_singleton.mp e)
    have f2 : yfr [0, 14] m1 (xwi (xwi m1 0 6 (0 : Int32)) 14 2 (0 : Int32)) := yfr_w (yfr_w yfr_r (by decide)) (by decide)
    refine ⟨xwi (xwi m1 0 6 (0 : Int32)) 14 2 (0 : Int32), ?_, fun j hj e h3 => ?_, fun t => absurd ⟨i, hi, rfl, h2⟩ t, yCk_t (yCk_of e3 (by decide)) (yCk_of f2 (by decide))⟩
    · rw [yP_t ⟨i, hi, rfl, h2⟩]
      have fg : fX4_forget_14 (xwi m1 0 6 (0 : Int32)) = some (xwi (xwi m1 0 6 (0 : Int32)) 14 2 (0 : Int32)) := by
        apply fX4_forget_14_i
        rfl
      apply fX11_restore_0_i
      rw [hi1 i hi rfl h2]
      simp only [Option.bind_some, xrc, a1, Bool.not_false, xgd_t, e1, xlt_e, fg]
    · have eij : j = i := ((nI_eq (by omega) (by omega)).mp e).symm
      subst eij
      refine ⟨(d2 j hi h2).2, yNt_r e2 f2 (by decide) (by decide), ⟨nx, ?_, ?_, q3, by omega, fun k hk => absurd hk (Nat.not_lt_zero k)⟩, ⟨?_, fun k hk h4 => ⟨yNt_r (yNt_r (d2 k hk h4).1 e3 (o _ (by omega) (by omega)) (o _ (by omega) (by omega))) f2 (o2 _ (by omega) (by omega)) (o2 _ (by omega) (by omega)), (d2 k hk h4).2⟩⟩, Or.inl ?_⟩
      · rw [xwi_i (by decide), xwi_k (by decide), yfr_1 e3 14 1 (by decide)]; exact q1
      · rw [xwi_e]; rfl
      · rw [xwi_k (by decide), xwi_i (by decide), yfr_1 e3 0 5 (by decide)]; exact d1
      · rw [xwi_k (by decide), xwi_e]; rfl
  · refine ⟨m, ?_, fun i hi e h2 => absurd ⟨i, hi, e, h2⟩ hx, fun _ => rfl, yCk_r m⟩
    rw [yP_f hx]
    apply fX11_restore_0_i
    rw [hi2 hx]
    rfl
