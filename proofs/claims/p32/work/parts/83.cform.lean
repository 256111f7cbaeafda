/-! the FORM of a text: the class -/
def yfl (s k : Nat) : Nat := if s = 0 then if k = 4 then 1 else 8 else if s = 1 then if k = 1 then 1 else if k = 3 then 2 else 8 else if s = 2 then if k = 5 then 3 else if k = 6 then 3 else if k = 7 then 6 else 8 else if s = 3 then if k = 1 then 4 else 8 else if s = 4 then if k = 1 then 5 else 8 else if s = 5 then if k = 1 then 5 else if k = 3 then 2 else 8 else if s = 6 then if k = 2 then 7 else 8 else if s = 7 then if k = 2 then 7 else if k = 3 then 2 else 8 else 8
theorem s_follow {s k : Nat} (hs : s < 9) (hk : k < 10) (m : xmm) : fX7_follow (nI s) (nI k) m = some (nI (yfl s k), m) := by
  apply fX7_follow_i
  have a : s = 0 ∨ s = 1 ∨ s = 2 ∨ s = 3 ∨ s = 4 ∨ s = 5 ∨ s = 6 ∨ s = 7 ∨ s = 8 := by omega
  have b : k = 0 ∨ k = 1 ∨ k = 2 ∨ k = 3 ∨ k = 4 ∨ k = 5 ∨ k = 6 ∨ k = 7 ∨ k = 8 ∨ k = 9 := by omega
  rcases a with e | e | e | e | e | e | e | e | e <;> subst e <;> rcases b with e | e | e | e | e | e | e | e | e | e <;> subst e <;> rfl
theorem yfl_b : ∀ s, s < 9 → ∀ k, k < 10 → yfl s k ≤ 8 := by decide
def yzfp (s p k : Nat) : Nat := if yfl s k = 1 then if k = 1 then p + 1 else p else p
/-- what comes of the form: 0 and how many tokens, or the FAULT and at which token -/
def yfo (kd : Nat → Nat) : Nat → Nat → Nat → Nat → Nat × Nat
  | 0, _, _, k => (2, k)
  | f + 1, s, p, k => if kd k = 9 ∧ s = 2 then (0, k) else if yfl s (kd k) = 8 then (1, k) else if 8 < yzfp s p (kd k) then (2, k) else if 400 ≤ k then (2, k) else yfo kd f (yfl s (kd k)) (yzfp s p (kd k)) (k + 1)
theorem s_refuse (a b : Int32) (m : xmm) : fX7_refuse_1 a b m = some (xwi (xwi m 1 2 a) 1 3 b) := by
  apply fX7_refuse_1_i
  rfl
theorem yKT_k {kd st nm vl : Nat → Nat} {k : Nat} {L J : List Nat} {m m' : xmm} (h : yKT kd st nm vl k m) (hf : yfk L J m m') (h1 : 8 ∉ J) (h5 : 5 ∉ 1 :: L) (h6 : 6 ∉ 1 :: L) (h7 : 7 ∉ 1 :: L) : yKT kd st nm vl k m' := ⟨by rw [hf.2 8 h1]; exact h.1, fun j hj => by
  rw [yfk_1 hf 5 j h5, yfk_1 hf 6 j h6, yfr_2 hf.1 7 j h7]
  exact h.2 j hj⟩
theorem s_cform {B : Nat → Nat} {len : Nat} (hB : yBk B len) : ∀ (f k s p : Nat) (m : xmm), ySC B len m → k + f = 401 → k ≤ 400 → s < 8 → p ≤ 8 → yKT (yzd B len) (yzt B len) (yznm B len) (yzvl B len) k m → m.1 1 9 = nI (yzp B len k) → ∃ m', bX7_checkForm_1_16 (nI s) (nI p) (nI k) m = some m' ∧ ((yfo (yzd B len) f s p k).1 = 0 → yKT (yzd B len) (yzt B len) (yznm B len) (yzvl B len) (yfo (yzd B len) f s p k).2 m' ∧ m'.1 1 2 = m.1 1 2 ∧ m'.1 1 3 = m.1 1 3) ∧ ((yfo (yzd B len) f s p k).1 ≠ 0 → m'.1 1 2 = nI (yfo (yzd B len) f s p k).1 ∧ m'.1 1 3 = nI (yzt B len (yfo (yzd B len) f s p k).2)) ∧ yfk [5, 6, 7] [2, 3, 8, 9] m m' := by
  intro f
  induction f with
  | zero => intro k s p m h hk h4; omega
  | succ f ih =>
    intro k s p m h hk h4 hs hp hT h9
    have b2 := hB.1
    have tl := yzt_l hB k
    have kb : 1 ≤ yzd B len k ∧ yzd B len k ≤ 9 := yzk_b B len (yzt B len k)
    obtain ⟨m1, a1, a2, a3⟩ := s_skip hB h h9 (yzp_l hB k)
    have h1 := ySC_k h a3 (by decide) (by decide)
    have a2' : m1.1 1 9 = nI (yzt B len k) := a2
    obtain ⟨m2, c1, c2, c3⟩ := s_scan hB h1 a2' tl.2.1
    have c1' : fX7_scan_1 m1 = some (nI (yzd B len k), m2) := c1
    have c2' : m2.1 1 9 = nI (yzp B len (k + 1)) := c2
    have h2 := ySC_k h1 c3 (by decide) (by decide)
    have f12 : yfk [] [9] m m2 := yfk_t a3 c3
    have g12 : yfk [5, 6, 7] [2, 3, 8, 9] m m2 := yfk_m f12 (by decide) (by decide)
    have T2 := yKT_k hT f12 (by decide) (by decide) (by decide) (by decide)
    have start : ∀ {z : xmm}, (if nI (yzd B len k) = (9 : Int32) then if nI s = (2 : Int32) then some m2 else bX7_checkForm_1_52 (nI s) (nI p) (nI k) (nI (yzt B len k)) (nI (yzd B len k)) m2 else bX7_checkForm_1_52 (nI s) (nI p) (nI k) (nI (yzt B len k)) (nI (yzd B len k)) m2) = some z → bX7_checkForm_1_16 (nI s) (nI p) (nI k) m = some z := by
      intro z hz
      apply bX7_checkForm_1_16_i
      rw [if_neg (by rw [yl400, nI_ltI (by decide) (by omega)]; omega), a1, Option.bind_some, c1', Option.bind_some, a2']
      exact hz
    have e9 : nI (yzd B len k) = (9 : Int32) ↔ yzd B len k = 9 := by rw [yl9]; exact nI_eq (by omega) (by decide)
    have e2 : nI s = (2 : Int32) ↔ s = 2 := nI_eq (b := 2) (by omega) (by decide)
    have u : yfo (yzd B len) (f + 1) s p k = if yzd B len k = 9 ∧ s = 2 then (0, k) else if yfl s (yzd B len k) = 8 then (1, k) else if 8 < yzfp s p (yzd B len k) then (2, k) else if 400 ≤ k then (2, k) else yfo (yzd B len) f (yfl s (yzd B len k)) (yzfp s p (yzd B len k)) (k + 1) := rfl
    by_cases q1 : yzd B len k = 9 ∧ s = 2
    · rw [u, if_pos q1]
      refine ⟨m2, start ?_, fun _ => ⟨T2, f12.2 2 (by decide), f12.2 3 (by decide)⟩, fun t => absurd rfl t, g12⟩
      rw [if_pos (e9.mpr q1.1), if_pos (e2.mpr q1.2)]
    rw [u, if_neg q1]
    have start2 : ∀ {z : xmm}, bX7_checkForm_1_52 (nI s) (nI p) (nI k) (nI (yzt B len k)) (nI (yzd B len k)) m2 = some z → bX7_checkForm_1_16 (nI s) (nI p) (nI k) m = some z := by
      intro z hz
      apply start
      by_cases t1 : yzd B len k = 9
      · rw [if_pos (e9.mpr t1), if_neg (fun t => q1 ⟨t1, e2.mp t⟩)]; exact hz
      · rw [if_neg (fun t => t1 (e9.mp t))]; exact hz
    have fb := yfl_b s (by omega) (yzd B len k) (by omega)
    have fl := s_follow (s := s) (k := yzd B len k) (by omega) (by omega) m2
    have e8 : nI (yfl s (yzd B len k)) = (8 : Int32) ↔ yfl s (yzd B len k) = 8 := by rw [yl8]; exact nI_eq (by omega) (by decide)
    by_cases q2 : yfl s (yzd B len k) = 8
    · rw [if_pos q2]
      refine ⟨xwi (xwi m2 1 2 1) 1 3 (nI (yzt B len k)), start2 ?_, fun t => absurd t (by decide : (1 : Nat) ≠ 0), fun _ => ⟨?_, xwi_e _ _ _ _⟩, yfk_f (yfk_f g12 (by decide)) (by decide)⟩
      · apply bX7_checkForm_1_52_i
        rw [fl, Option.bind_some]
        dsimp only
        rw [if_pos (e8.mpr q2), s_refuse]
        rfl
      · rw [xwi_i (by decide), xwi_e]; rfl
    rw [if_neg q2]
    have start3 : ∀ {z : xmm}, bX7_checkForm_1_87 (nI (yfl s (yzd B len k))) (nI (yzfp s p (yzd B len k))) (nI k) (nI (yzt B len k)) (nI (yzd B len k)) m2 = some z → bX7_checkForm_1_16 (nI s) (nI p) (nI k) m = some z := by
      intro z hz
      apply start2
      apply bX7_checkForm_1_52_i
      rw [fl, Option.bind_some]
      dsimp only
      have e1 : nI (yfl s (yzd B len k)) = (1 : Int32) ↔ yfl s (yzd B len k) = 1 := nI_eq (b := 1) (by omega) (by decide)
      have ek : nI (yzd B len k) = (1 : Int32) ↔ yzd B len k = 1 := nI_eq (b := 1) (by omega) (by decide)
      unfold yzfp at hz
      rw [if_neg (fun t => q2 (e8.mp t))]
      by_cases t1 : yfl s (yzd B len k) = 1
      · rw [if_pos (e1.mpr t1)]
        rw [if_pos t1] at hz
        by_cases t2 : yzd B len k = 1
        · rw [if_pos (ek.mpr t2), nI_1]
          rw [if_pos t2] at hz
          exact hz
        · rw [if_neg (fun t => t2 (ek.mp t))]
          rw [if_neg t2] at hz
          exact hz
      · rw [if_neg (fun t => t1 (e1.mp t))]
        rw [if_neg t1] at hz
        exact hz
    have pb : yzfp s p (yzd B len k) ≤ 9 := by unfold yzfp; split <;> (try split) <;> omega
    by_cases q3 : 8 < yzfp s p (yzd B len k)
    · rw [if_pos q3]
      refine ⟨xwi (xwi m2 1 2 2) 1 3 (nI (yzt B len k)), start3 ?_, fun t => absurd t (by decide : (2 : Nat) ≠ 0), fun _ => ⟨?_, xwi_e _ _ _ _⟩, yfk_f (yfk_f g12 (by decide)) (by decide)⟩
      · apply bX7_checkForm_1_87_i
        rw [if_pos (by rw [yl8, nI_ltI (by decide) (by omega)]; exact q3), s_refuse]
        rfl
      · rw [xwi_i (by decide), xwi_e]; rfl
    rw [if_neg q3]
    have n3 : ¬ (8 : Int32) < nI (yzfp s p (yzd B len k)) := by rw [yl8, nI_ltI (by decide) (by omega)]; exact q3
    by_cases q4 : 400 ≤ k
    · rw [if_pos q4]
      refine ⟨xwi (xwi m2 1 2 2) 1 3 (nI (yzt B len k)), start3 ?_, fun t => absurd t (by decide : (2 : Nat) ≠ 0), fun _ => ⟨?_, xwi_e _ _ _ _⟩, yfk_f (yfk_f g12 (by decide)) (by decide)⟩
      · apply bX7_checkForm_1_87_i
        rw [if_neg n3, T2.1, if_neg (by rw [yl400, nI_ltI (by omega) (by decide)]; omega), s_refuse]
        rfl
      · rw [xwi_i (by decide), xwi_e]; rfl
    rw [if_neg q4]
    obtain ⟨m3, d1, d2, d3⟩ := s_keepToken hB h2 (by omega) c2' T2
    have h3 := ySC_k h2 d3 (by decide) (by decide)
    obtain ⟨m', r1, r2, r3, r4⟩ := ih (k + 1) (yfl s (yzd B len k)) (yzfp s p (yzd B len k)) m3 h3 (by omega) (by omega) (by omega) (by omega) d2 (by rw [d3.2 9 (by decide)]; exact c2')
    have f23 : yfk [5, 6, 7] [2, 3, 8, 9] m m3 := yfk_t g12 (yfk_m d3 (by decide) (by decide))
    refine ⟨m', start3 ?_, fun t => ?_, r3, yfk_t f23 r4⟩
    · apply bX7_checkForm_1_87_i
      rw [if_neg n3, T2.1, if_pos (by rw [yl400, nI_ltI (by omega) (by decide)]; omega), d1, Option.bind_some, nI_1]
      exact r1
    · have r := r2 t
      exact ⟨r.1, r.2.1.trans ((d3.2 2 (by decide)).trans (f12.2 2 (by decide))), r.2.2.trans ((d3.2 3 (by decide)).trans (f12.2 3 (by decide)))⟩
theorem s_checkForm {B : Nat → Nat} {len : Nat} (hB : yBk B len) {m : xmm} (h : ySC B len m) (hF : m.1 1 2 = nI 0) : ∃ m', fX7_checkForm_1 m = some m' ∧ ((yfo (yzd B len) 401 0 0 0).1 = 0 → yKT (yzd B len) (yzt B len) (yznm B len) (yzvl B len) (yfo (yzd B len) 401 0 0 0).2 m' ∧ m'.1 1 2 = nI 0 ∧ m'.1 1 3 = m.1 1 3) ∧ ((yfo (yzd B len) 401 0 0 0).1 ≠ 0 → m'.1 1 2 = nI (yfo (yzd B len) 401 0 0 0).1 ∧ m'.1 1 3 = nI (yzt B len (yfo (yzd B len) 401 0 0 0).2)) ∧ yfk [5, 6, 7] [2, 3, 8, 9] m m' := by
  have f : yfk [5, 6, 7] [2, 3, 8, 9] m (xwi (xwi m 1 8 (nI 0)) 1 9 (nI 0)) := yfk_f (yfk_f yfk_r (by decide)) (by decide)
  obtain ⟨m', a1, a2, a3, a4⟩ := s_cform hB 401 0 0 0 (xwi (xwi m 1 8 (nI 0)) 1 9 (nI 0)) (ySC_k h f (by decide) (by decide)) rfl (by decide) (by decide) (by decide) ⟨by rw [xwi_i (by decide), xwi_e], fun j hj => absurd hj (Nat.not_lt_zero j)⟩ (xwi_e _ _ _ _)
  refine ⟨m', ?_, fun t => ?_, a3, yfk_t f a4⟩
  · apply fX7_checkForm_1_i
    exact a1
  · have r := a2 t
    exact ⟨r.1, by rw [r.2.1, xwi_i (by decide), xwi_i (by decide)]; exact hF, by rw [r.2.2, xwi_i (by decide), xwi_i (by decide)]⟩
