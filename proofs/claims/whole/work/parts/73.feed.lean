/-! feed, both sides -/
def yT2 (m m' : xmm) : Prop := yfr [144, 145] m m' ∧ ∀ i, i ≠ 2 → m'.1 144 i = m.1 144 i
theorem yT2_t {m m' m'' : xmm} (h : yT2 m m') (h' : yT2 m' m'') : yT2 m m'' := ⟨yfr_t h.1 h'.1, fun i hi => (h'.2 i hi).trans (h.2 i hi)⟩
theorem yT2_b {m : xmm} {len : Nat} {b c : Int32} : yT2 m (xwi (xwi m 145 len b) 144 2 c) := ⟨yfr_w (yfr_w yfr_r (by decide)) (by decide), fun i hi => by rw [xwi_i hi, xwi_k (by decide)]⟩
theorem s_mWord {len : Nat} {bt : Nat → Int32} {m : xmm} (h : yTM len bt m) (hl : len + 4 ≤ 2000) (v : Int32) : ∃ m', fX12_lays_144 v m = some m' ∧ yTM (len + 4) (yb4 bt len v) m' ∧ yT2 m m' := by
  have a := s_am1 h (by omega) v 24 (by decide)
  have b := s_am1 a.2 (by omega) v 16 (by decide)
  have c := s_am1 b.2 (by omega) v 8 (by decide)
  have d := s_am1 c.2 (by omega) v 0 (by decide)
  have e1 : (24 : Int32) + (-8 : Int32) = 16 := by decide
  have e2 : (16 : Int32) + (-8 : Int32) = 8 := by decide
  have e3 : (8 : Int32) + (-8 : Int32) = 0 := by decide
  have e4 : (0 : Int32) + (-8 : Int32) = -8 := by decide
  rw [e1] at a
  rw [e2] at b
  rw [e3] at c
  rw [e4] at d
  refine ⟨_, ?_, d.2, yT2_t yT2_b (yT2_t yT2_b (yT2_t yT2_b yT2_b))⟩
  apply fX12_lays_144_i
  apply a.1
  apply b.1
  apply c.1
  apply d.1
  apply bX12_lays_144_3_i
  exact if_pos (by decide)
def yb20 (bt : Nat → Int32) (len : Nat) (v1 v2 v3 v4 v5 : Int32) : Nat → Int32 := yb4 (yb4 (yb4 (yb4 (yb4 bt len v1) (len + 4) v2) (len + 8) v3) (len + 12) v4) (len + 16) v5
theorem s_cFeed {len : Nat} {bt : Nat → Int32} {m : xmm} (h : yTC len bt m) (v1 v2 v3 v4 v5 : Int32) : (len + 20 ≤ 2000 → ∃ m', fX11_feed_0 v1 v2 v3 v4 v5 m = some (nI (len + 20), m') ∧ yTC (len + 20) (yb20 bt len v1 v2 v3 v4 v5) m' ∧ yT1 m m') ∧ (¬ len + 20 ≤ 2000 → fX11_feed_0 v1 v2 v3 v4 v5 m = some (-1, m)) := by
  have l20 : (20 : Int32) = nI 20 := rfl
  have l2k : (2000 : Int32) = nI 2000 := rfl
  have hl := h.2.1
  constructor
  · intro hr
    have room : fX7_hasRoom_1 m = some (1, m) := by
      apply fX7_hasRoom_1_i
      have lt : ¬ (2000 : Int32) < m.1 1 1 + (20 : Int32) := by
        rw [h.1, l20, nI_add, l2k, nI_ltI (by omega) (by omega)]
        omega
      rw [if_neg lt]
    obtain ⟨m1, a1, a2, a3⟩ := s_addWord h (by omega) v1
    obtain ⟨m2, b1, b2, b3⟩ := s_addWord a2 (by omega) v2
    obtain ⟨m3, c1, c2, c3⟩ := s_addWord b2 (by omega) v3
    obtain ⟨m4, d1, d2, d3⟩ := s_addWord c2 (by omega) v4
    obtain ⟨m5, e1, e2, e3⟩ := s_addWord d2 (by omega) v5
    refine ⟨m5, ?_, e2, yT1_t a3 (yT1_t b3 (yT1_t c3 (yT1_t d3 e3)))⟩
    apply fX11_feed_0_i
    rw [room, Option.bind_some, if_neg (show ¬ (1 : Int32) = 0 by decide), a1, Option.bind_some, b1, Option.bind_some, c1, Option.bind_some, d1, Option.bind_some, e1, Option.bind_some, e2.1]
  · intro hr
    have room : fX7_hasRoom_1 m = some (0, m) := by
      apply fX7_hasRoom_1_i
      have lt : (2000 : Int32) < m.1 1 1 + (20 : Int32) := by
        rw [h.1, l20, nI_add, l2k, nI_ltI (by omega) (by omega)]
        omega
      rw [if_pos lt]
    apply fX11_feed_0_i
    rw [room, Option.bind_some, if_pos rfl]
theorem s_mFeed {len : Nat} {bt : Nat → Int32} {m : xmm} (h : yTM len bt m) (v1 v2 v3 v4 v5 : Int32) : (len + 20 ≤ 2000 → ∃ m', fX12_feed_144 v1 v2 v3 v4 v5 m = some (nI (len + 20), m') ∧ yTM (len + 20) (yb20 bt len v1 v2 v3 v4 v5) m' ∧ yT2 m m') ∧ (¬ len + 20 ≤ 2000 → fX12_feed_144 v1 v2 v3 v4 v5 m = some (-1, m)) := by
  have l20 : (20 : Int32) = nI 20 := rfl
  have l2k : (2000 : Int32) = nI 2000 := rfl
  have hl := h.2.1
  constructor
  · intro hr
    obtain ⟨m1, a1, a2, a3⟩ := s_mWord h (by omega) v1
    obtain ⟨m2, b1, b2, b3⟩ := s_mWord a2 (by omega) v2
    obtain ⟨m3, c1, c2, c3⟩ := s_mWord b2 (by omega) v3
    obtain ⟨m4, d1, d2, d3⟩ := s_mWord c2 (by omega) v4
    obtain ⟨m5, e1, e2, e3⟩ := s_mWord d2 (by omega) v5
    refine ⟨m5, ?_, e2, yT2_t a3 (yT2_t b3 (yT2_t c3 (yT2_t d3 e3)))⟩
    have le : m.1 144 2 + (20 : Int32) ≤ (2000 : Int32) := by
      rw [h.1, l20, nI_add, l2k, nI_leI (by omega) (by omega)]
      omega
    apply fX12_feed_144_i
    rw [if_pos le, a1, Option.bind_some, b1, Option.bind_some, c1, Option.bind_some, d1, Option.bind_some, e1, Option.bind_some, e2.1]
  · intro hr
    have le : ¬ m.1 144 2 + (20 : Int32) ≤ (2000 : Int32) := by
      rw [h.1, l20, nI_add, l2k, nI_leI (by omega) (by omega)]
      omega
    apply fX12_feed_144_i
    rw [if_neg le]
