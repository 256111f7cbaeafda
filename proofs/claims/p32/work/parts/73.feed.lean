/-! feed, both sides -/
def yT2 (m m' : xmm) : Prop := yfr [144, 145] m m' ∧ ∀ i, i ≠ 2 → m'.1 144 i = m.1 144 i
theorem yT2_t {m m' m'' : xmm} (h : yT2 m m') (h' : yT2 m' m'') : yT2 m m'' := ⟨yfr_t h.1 h'.1, fun i hi => (h'.2 i hi).trans (h.2 i hi)⟩
theorem yT2_b {m : xmm} {len : Nat} {b c : Int32} : yT2 m (xwi (xwi m 145 len b) 144 2 c) := ⟨yfr_w (yfr_w yfr_r (by decide)) (by decide), fun i hi => by rw [xwi_i hi, xwi_k (by decide)]⟩
def yb20 (bt : Nat → Int32) (len : Nat) (v1 v2 v3 v4 v5 : Int32) : Nat → Int32 := yb4 (yb4 (yb4 (yb4 (yb4 bt len v1) (len + 4) v2) (len + 8) v3) (len + 12) v4) (len + 16) v5
theorem s_cFeed {len : Nat} {bt : Nat → Int32} {m : xmm} (h : yTC len bt m) (v1 v2 v3 v4 v5 : Int32) : (len + 20 ≤ 2000 → ∃ m', fX11_feed_0 v1 v2 v3 v4 v5 m = some (nI (len + 20), m') ∧ yTC (len + 20) (yb20 bt len v1 v2 v3 v4 v5) m' ∧ yT1 m m') ∧ (¬ len + 20 ≤ 2000 → fX11_feed_0 v1 v2 v3 v4 v5 m = some (-1, m)) := by
  have l20 : (20 : Int32) = nI 20 := rfl
  have l2k : (2000 : Int32) = nI 2000 := rfl
  have hl := h.2.1
  constructor
  · intro hr
    have room : fX7_hasRoom_1 m = some (1, m) := by
      apply fX7_hasRoom_1_i
      have lt : ¬ (2000 : Int32) < m.1 1 1 + (20 : Int32) := by
        rw [h.1, l20, nI_add, l2k, nI_ltI (by omega) (by omega)]
        omega
      rw [if_neg lt]
    obtain ⟨m1, a1, a2, a3⟩ := s_addWord h (by omega) v1
    obtain ⟨m2, b1, b2, b3⟩ := s_addWord a2 (by omega) v2
    obtain ⟨m3, c1, c2, c3⟩ := s_addWord b2 (by omega) v3
    obtain ⟨m4, d1, d2, d3⟩ := s_addWord c2 (by omega) v4
    obtain ⟨m5, e1, e2, e3⟩ := s_addWord d2 (by omega) v5
    refine ⟨m5, ?_, e2, yT1_t a3 (yT1_t b3 (yT1_t c3 (yT1_t d3 e3)))⟩
    apply fX11_feed_0_i
    rw [room, Option.bind_some, if_neg (show ¬ (1 : Int32) = 0 by decide), a1, Option.bind_some, b1, Option.bind_some, c1, Option.bind_some, d1, Option.bind_some, e1, Option.bind_some, e2.1]
  · intro hr
    have room : fX7_hasRoom_1 m = some (0, m) := by
      apply fX7_hasRoom_1_i
      have lt : (2000 : Int32) < m.1 1 1 + (20 : Int32) := by
        rw [h.1, l20, nI_add, l2k, nI_ltI (by omega) (by omega)]
        omega
      rw [if_pos lt]
    apply fX11_feed_0_i
    rw [room, Option.bind_some, if_pos rfl]
