/-! the TAPE: feed, back -/
def yTC (len : Nat) (bt : Nat → Int32) (m : xmm) : Prop := m.1 1 1 = nI len ∧ len ≤ 2000 ∧ ∀ i, i < len → m.1 2 i = bt i
def yTM (len : Nat) (bt : Nat → Int32) (m : xmm) : Prop := m.1 144 2 = nI len ∧ len ≤ 2000 ∧ ∀ i, i < len → m.1 145 i = bt i
def yby (v s : Int32) : Int32 := (Int32.toInt8 ((Int32.toInt8 (v >>> (s &&& 31))).toInt32)).toInt32
def ybp (bt : Nat → Int32) (len : Nat) (b : Int32) : Nat → Int32 := fun i => if i = len then b else bt i
def yb4 (bt : Nat → Int32) (len : Nat) (v : Int32) : Nat → Int32 := ybp (ybp (ybp (ybp bt len (yby v 24)) (len + 1) (yby v 16)) (len + 2) (yby v 8)) (len + 3) (yby v 0)
theorem s_aw1 {len : Nat} {bt : Nat → Int32} {m : xmm} (h : yTC len bt m) (hl : len < 2000) (v s : Int32) (hs : ¬ s < 0) : (∀ {z : xmm}, bX7_addWord_1_3 v (s + (-8 : Int32)) (xwi (xwi m 2 len (yby v s)) 1 1 (nI (len + 1))) = some z → bX7_addWord_1_3 v s m = some z) ∧ yTC (len + 1) (ybp bt len (yby v s)) (xwi (xwi m 2 len (yby v s)) 1 1 (nI (len + 1))) := by
  obtain ⟨h1, h2, h3⟩ := h
  refine ⟨fun {z} hz => ?_, xwi_e _ _ _ _, by omega, fun i hi => ?_⟩
  · have le : ¬ (2000 : Int32) ≤ m.1 1 1 := by
      have l : (2000 : Int32) = nI 2000 := rfl
      rw [h1, l, nI_leI (by omega) (by omega)]
      omega
    have w : ∀ b, (xwi m 2 len b).1 1 1 = nI len := fun b => by rw [xwi_k (by decide)]; exact h1
    apply bX7_addWord_1_3_i
    rw [if_neg hs, if_neg le, h1, xinb_t hl (by decide), nI_clamp (by omega), xgd_t, xlt_e, w, xlt_e, nI_1]
    exact hz
  · rw [xwi_k (by decide)]
    unfold ybp
    by_cases e : i = len
    · subst e; rw [xwi_e, if_pos rfl]
    · rw [xwi_i e, if_neg e]; exact h3 i (by omega)
/-- fields of 1 other than the length stay -/
def yT1 (m m' : xmm) : Prop := yfr [1, 2] m m' ∧ ∀ i, i ≠ 1 → m'.1 1 i = m.1 1 i
theorem yT1_t {m m' m'' : xmm} (h : yT1 m m') (h' : yT1 m' m'') : yT1 m m'' := ⟨yfr_t h.1 h'.1, fun i hi => (h'.2 i hi).trans (h.2 i hi)⟩
theorem yT1_b {m : xmm} {len : Nat} {b c : Int32} : yT1 m (xwi (xwi m 2 len b) 1 1 c) := ⟨yfr_w (yfr_w yfr_r (by decide)) (by decide), fun i hi => by rw [xwi_i hi, xwi_k (by decide)]⟩
theorem s_addWord {len : Nat} {bt : Nat → Int32} {m : xmm} (h : yTC len bt m) (hl : len + 4 ≤ 2000) (v : Int32) : ∃ m', fX7_addWord_1 v m = some m' ∧ yTC (len + 4) (yb4 bt len v) m' ∧ yT1 m m' := by
  have a := s_aw1 h (by omega) v 24 (by decide)
  have b := s_aw1 a.2 (by omega) v 16 (by decide)
  have c := s_aw1 b.2 (by omega) v 8 (by decide)
  have d := s_aw1 c.2 (by omega) v 0 (by decide)
  have e1 : (24 : Int32) + (-8 : Int32) = 16 := by decide
  have e2 : (16 : Int32) + (-8 : Int32) = 8 := by decide
  have e3 : (8 : Int32) + (-8 : Int32) = 0 := by decide
  have e4 : (0 : Int32) + (-8 : Int32) = -8 := by decide
  rw [e1] at a
  rw [e2] at b
  rw [e3] at c
  rw [e4] at d
  refine ⟨_, ?_, d.2, yT1_t yT1_b (yT1_t yT1_b (yT1_t yT1_b yT1_b))⟩
  apply fX7_addWord_1_i
  apply a.1
  apply b.1
  apply c.1
  apply d.1
  apply bX7_addWord_1_3_i
  exact if_pos (by decide)
