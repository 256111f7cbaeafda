/-! the FORM of a text: the model -/
def yMF (kd st : Nat → Nat) (K : Nat) (m : xmm) : Prop := ∀ j, j < K → m.1 147 j = nI (ymk (kd j)) ∧ m.1 148 j = nI (st j)
theorem yMF_k {kd st : Nat → Nat} {K : Nat} {L J : List Nat} {m m' : xmm} (h : yMF kd st K m) (hf : yfm L J m m') (h1 : 147 ∉ 144 :: L) (h2 : 148 ∉ 144 :: L) : yMF kd st K m' := fun j hj => by
  rw [yfm_1 hf 147 j h1, yfm_1 hf 148 j h2]; exact h j hj
def yOk (kd : Nat → Nat) (k : Nat) (m : xmm) : Prop := m.1 144 11 = nI k ∧ m.1 144 12 = nI 0 ∧ k ≤ 400 ∧ ∀ i, i < k → kd i ≠ 9
def yBd (st : Nat → Nat) (o j : Nat) (m : xmm) : Prop := m.1 144 12 = nI o ∧ 0 < o ∧ o < 9 ∧ m.1 144 13 = nI (st j)
theorem ymk_i : ∀ a, a < 10 → 1 ≤ a → ∀ b, b < 10 → 1 ≤ b → ymk a = ymk b → a = b := by decide
theorem ymk_b : ∀ a, a < 10 → ymk a < 24 := by decide
theorem s_is {kd st : Nat → Nat} {K : Nat} (hkd : ∀ k, 1 ≤ kd k ∧ kd k ≤ 9) (hK : K ≤ 401) (hKs : ∀ k, k ≤ 400 → (∀ i, i < k → kd i ≠ 9) → k < K) {k a : Nat} (ha : 1 ≤ a ∧ a ≤ 9) {m : xmm} (hF : yMF kd st K m) (hO : yOk kd k m) : fX12_is_144 (nI (ymk a)) m = some (yP (kd k = a), m) := by
  have kb := hkd k
  have kK := hKs k hO.2.2.1 hO.2.2.2
  have b1 := ymk_b a (by omega)
  have b2 := ymk_b (kd k) (by omega)
  have k4 := hO.2.2.1
  apply fX12_is_144_i
  rw [hO.2.1, if_pos (show nI 0 = (0 : Int32) from rfl), hO.1, xinb_t (by omega) (by decide), xgd_t, nI_clamp (by omega), (hF k kK).1]
  by_cases e : kd k = a
  · rw [if_pos (by rw [e]), yP_t e]
  · rw [if_neg (fun t => e (ymk_i _ (by omega) kb.1 _ (by omega) ha.1 ((nI_eq (by omega) (by omega)).mp t))), yP_f e]
theorem s_isB {st : Nat → Nat} {o j : Nat} {m : xmm} (hb : yBd st o j m) (c : Int32) : fX12_is_144 c m = some (0, m) := by
  apply fX12_is_144_i
  have b := hb.2.2.1
  rw [hb.1, if_neg (nI_ne0 hb.2.1 (by omega))]
theorem s_fail {kd st : Nat → Nat} {K : Nat} (hkd : ∀ k, 1 ≤ kd k ∧ kd k ≤ 9) (hK : K ≤ 401) (hKs : ∀ k, k ≤ 400 → (∀ i, i < k → kd i ≠ 9) → k < K) {k o : Nat} (ho : 0 < o ∧ o < 9) {m : xmm} (hF : yMF kd st K m) (hO : yOk kd k m) : ∃ m1, fX12_fail_144 (nI o) m = some m1 ∧ yBd st o k m1 ∧ yfm [] [11, 12, 13] m m1 := by
  have kK := hKs k hO.2.2.1 hO.2.2.2
  have k4 := hO.2.2.1
  refine ⟨xwi (xwi m 144 12 (nI o)) 144 13 (nI (st k)), ?_, ⟨by rw [xwi_i (by decide), xwi_e], ho.1, ho.2, xwi_e _ _ _ _⟩, yfm_f (yfm_f yfm_r (by decide)) (by decide)⟩
  apply fX12_fail_144_i
  have x1 : (xwi m 144 12 (nI o)).1 144 11 = nI k := by rw [xwi_i (by decide)]; exact hO.1
  rw [hO.2.1, if_pos (by decide), xlt_e, x1, xinb_t (by omega) (by decide), xgd_t, nI_clamp (by omega), xwi_k (by decide), (hF k kK).2]
  rfl
theorem s_failB {st : Nat → Nat} {o j : Nat} {m : xmm} (hb : yBd st o j m) (c : Int32) : fX12_fail_144 c m = some m := by
  apply fX12_fail_144_i
  have b := hb.2.2.1
  rw [hb.1, if_neg (nI_nle hb.2.1 (by omega))]
theorem s_passes {kd st : Nat → Nat} {K : Nat} (hkd : ∀ k, 1 ≤ kd k ∧ kd k ≤ 9) (hK : K ≤ 401) (hKs : ∀ k, k ≤ 400 → (∀ i, i < k → kd i ≠ 9) → k < K) {k : Nat} {m : xmm} (hF : yMF kd st K m) (hO : yOk kd k m) (h9 : kd k ≠ 9) : ∃ m1, fX12_passes_144 m = some m1 ∧ (k < 400 → yOk kd (k + 1) m1) ∧ (¬ k < 400 → yBd st 2 k m1) ∧ yfm [] [11, 12, 13] m m1 := by
  have k4 := hO.2.2.1
  by_cases e : k = 400
  · obtain ⟨m1, a1, a2, a3⟩ := s_fail (o := 2) hkd hK hKs (by decide) hF hO
    refine ⟨m1, ?_, fun t => by omega, fun _ => a2, a3⟩
    have a1' : fX12_fail_144 (2 : Int32) m = some m1 := a1
    apply fX12_passes_144_i
    rw [hO.1, if_pos (by rw [e]; rfl), a1']
    rfl
  · refine ⟨xwi m 144 11 (nI (k + 1)), ?_, fun t => ⟨xwi_e _ _ _ _, by rw [xwi_i (by decide)]; exact hO.2.1, by omega, fun i hi => ?_⟩, fun t => by omega, yfm_f yfm_r (by decide)⟩
    · apply fX12_passes_144_i
      rw [hO.1, if_neg (fun t => e (by rw [yl400, nI_eq (by omega) (by decide)] at t; exact t)), nI_1]
      rfl
    · by_cases g : i = k
      · rw [g]; exact h9
      · exact hO.2.2.2 i (by omega)
theorem s_must {kd st : Nat → Nat} {K : Nat} (hkd : ∀ k, 1 ≤ kd k ∧ kd k ≤ 9) (hK : K ≤ 401) (hKs : ∀ k, k ≤ 400 → (∀ i, i < k → kd i ≠ 9) → k < K) {k a : Nat} (ha : 1 ≤ a ∧ a < 9) {m : xmm} (hF : yMF kd st K m) (hO : yOk kd k m) : ∃ m1, fX12_must_144 (nI (ymk a)) m = some m1 ∧ ((kd k = a ∧ k < 400 ∧ yOk kd (k + 1) m1) ∨ (kd k = a ∧ ¬ k < 400 ∧ yBd st 2 k m1) ∨ (kd k ≠ a ∧ yBd st 1 k m1)) ∧ yfm [] [11, 12, 13] m m1 := by
  have i := s_is hkd hK hKs (a := a) (by omega) hF hO
  by_cases e : kd k = a
  · obtain ⟨m1, a1, a2, a3, a4⟩ := s_passes hkd hK hKs hF hO (by omega)
    refine ⟨m1, ?_, ?_, a4⟩
    · apply fX12_must_144_i
      rw [i, Option.bind_some, yP_t e, if_neg yn10]
      dsimp only
      rw [a1]; rfl
    · by_cases g : k < 400
      · exact Or.inl ⟨e, g, a2 g⟩
      · exact Or.inr (Or.inl ⟨e, g, a3 g⟩)
  · obtain ⟨m1, a1, a2, a3⟩ := s_fail (o := 1) hkd hK hKs (by decide) hF hO
    have a1' : fX12_fail_144 (1 : Int32) m = some m1 := a1
    refine ⟨m1, ?_, Or.inr (Or.inr ⟨e, a2⟩), a3⟩
    apply fX12_must_144_i
    rw [i, Option.bind_some, yP_f e, if_pos rfl]
    dsimp only
    rw [a1']; rfl
theorem s_mustB {st : Nat → Nat} {o j : Nat} {m : xmm} (hb : yBd st o j m) (c : Int32) : fX12_must_144 c m = some m := by
  apply fX12_must_144_i
  rw [s_isB hb, Option.bind_some, if_pos rfl]
  dsimp only
  rw [s_failB hb]; rfl
/-! how the outcome goes on -/
theorem yfo_go {kd : Nat → Nat} {f s p k s' p' : Nat} (h2 : ¬ (kd k = 9 ∧ s = 2)) (hs : yfl s (kd k) = s') (h8 : s' ≠ 8) (hp : yzfp s p (kd k) = p') (hp8 : p' ≤ 8) (hk : k < 400) : yfo kd (f + 1) s p k = yfo kd f s' p' (k + 1) := by
  show (if kd k = 9 ∧ s = 2 then (0, k) else if yfl s (kd k) = 8 then (1, k) else if 8 < yzfp s p (kd k) then (2, k) else if 400 ≤ k then (2, k) else yfo kd f (yfl s (kd k)) (yzfp s p (kd k)) (k + 1)) = _
  rw [if_neg h2, hs, if_neg h8, hp, if_neg (by omega), if_neg (by omega)]
theorem yfo_end {kd : Nat → Nat} {f s p k : Nat} (h2 : kd k = 9 ∧ s = 2) : yfo kd (f + 1) s p k = (0, k) := by
  show (if kd k = 9 ∧ s = 2 then (0, k) else if yfl s (kd k) = 8 then (1, k) else if 8 < yzfp s p (kd k) then (2, k) else if 400 ≤ k then (2, k) else yfo kd f (yfl s (kd k)) (yzfp s p (kd k)) (k + 1)) = _
  rw [if_pos h2]
theorem yfo_1 {kd : Nat → Nat} {f s p k : Nat} (h2 : ¬ (kd k = 9 ∧ s = 2)) (hs : yfl s (kd k) = 8) : yfo kd (f + 1) s p k = (1, k) := by
  show (if kd k = 9 ∧ s = 2 then (0, k) else if yfl s (kd k) = 8 then (1, k) else if 8 < yzfp s p (kd k) then (2, k) else if 400 ≤ k then (2, k) else yfo kd f (yfl s (kd k)) (yzfp s p (kd k)) (k + 1)) = _
  rw [if_neg h2, if_pos hs]
theorem yfo_2 {kd : Nat → Nat} {f s p k : Nat} (h2 : ¬ (kd k = 9 ∧ s = 2)) (hs : yfl s (kd k) ≠ 8) (h : 8 < yzfp s p (kd k) ∨ ¬ k < 400) : yfo kd (f + 1) s p k = (2, k) := by
  show (if kd k = 9 ∧ s = 2 then (0, k) else if yfl s (kd k) = 8 then (1, k) else if 8 < yzfp s p (kd k) then (2, k) else if 400 ≤ k then (2, k) else yfo kd f (yfl s (kd k)) (yzfp s p (kd k)) (k + 1)) = _
  rw [if_neg h2, if_neg hs]
  by_cases g : 8 < yzfp s p (kd k)
  · rw [if_pos g]
  · rw [if_neg g, if_pos (by omega)]
/-- where the walk stands: behind a sentence, or at a FAULT -/
def yPg (kd st : Nat → Nat) (r : Nat × Nat) (p f : Nat) (m : xmm) : Prop := (∃ f' k', k' + f' = 401 ∧ f' < f ∧ r = yfo kd f' 2 p k' ∧ yOk kd k' m) ∨ (r.1 ≠ 0 ∧ yBd st r.1 r.2 m)
theorem yPg_m {kd st : Nat → Nat} {r : Nat × Nat} {p f f' : Nat} {m : xmm} (h : yPg kd st r p f m) (hf : f ≤ f') : yPg kd st r p f' m := h.imp (fun ⟨a, b, c, d, e⟩ => ⟨a, b, c, by omega, e⟩) id
theorem s_tell_65 {kd st : Nat → Nat} {K : Nat} (hkd : ∀ k, 1 ≤ kd k ∧ kd k ≤ 9) (hK : K ≤ 401) (hKs : ∀ k, k ≤ 400 → (∀ i, i < k → kd i ≠ 9) → k < K) {p : Nat} (hp : p ≤ 8) : ∀ (f k : Nat) (m : xmm), k + f = 401 → yMF kd st K m → yOk kd k m → ∃ m1, bX12_tellLine_144_65 m = some m1 ∧ yPg kd st (yfo kd f 5 p k) p f m1 ∧ yfm [] [11, 12, 13] m m1 := by
  intro f
  induction f with
  | zero =>
    intro k m hk hF hO
    have := hO.2.2.1
    omega
  | succ f ih =>
    intro k m hk hF hO
    have kb := hkd k
    have i : fX12_is_144 (1 : Int32) m = some (yP (kd k = 1), m) := s_is hkd hK hKs (a := 1) (by decide) hF hO
    have n2 : ¬ (kd k = 9 ∧ 5 = 2) := fun t => absurd t.2 (by decide)
    by_cases e : kd k = 1
    · have yp : yzfp 5 p (kd k) = p := by rw [e]; rfl
      obtain ⟨m1, a1, a2, a3, a4⟩ := s_passes hkd hK hKs hF hO (by omega)
      by_cases g : k < 400
      · obtain ⟨m', r1, r2, r3⟩ := ih (k + 1) m1 (by omega) (yMF_k hF a4 (by decide) (by decide)) (a2 g)
        refine ⟨m', ?_, ?_, yfm_t a4 r3⟩
        · apply bX12_tellLine_144_65_i
          rw [i, Option.bind_some, yP_t e, if_neg yn10]
          dsimp only
          rw [a1, Option.bind_some]
          exact r1
        · rw [yfo_go (s' := 5) n2 (by rw [e]; rfl) (by decide) yp hp g]
          exact yPg_m r2 (by omega)
      · refine ⟨m1, ?_, ?_, a4⟩
        · apply bX12_tellLine_144_65_i
          rw [i, Option.bind_some, yP_t e, if_neg yn10]
          dsimp only
          rw [a1, Option.bind_some]
          apply bX12_tellLine_144_65_i
          rw [s_isB (a3 g), Option.bind_some, if_pos rfl]
          dsimp only
          rw [s_mustB (a3 g)]; rfl
        · rw [yfo_2 n2 (by rw [e]; decide) (Or.inr g)]
          exact Or.inr ⟨(show (2 : Nat) ≠ 0 by decide), a3 g⟩
    · obtain ⟨m1, b1, b2, b3⟩ := s_must hkd hK hKs (a := 3) (by decide) hF hO
      have b1' : fX12_must_144 (4 : Int32) m = some m1 := b1
      refine ⟨m1, ?_, ?_, b3⟩
      · apply bX12_tellLine_144_65_i
        rw [i, Option.bind_some, yP_f e, if_pos rfl]
        dsimp only
        rw [b1']; rfl
      · rcases b2 with ⟨c1, c2, c3⟩ | ⟨c1, c2, c3⟩ | ⟨c1, c3⟩
        · rw [yfo_go (s' := 2) (p' := p) n2 (by rw [c1]; rfl) (by decide) (by rw [c1]; rfl) hp c2]
          exact Or.inl ⟨f, k + 1, by omega, by omega, rfl, c3⟩
        · rw [yfo_2 n2 (by rw [c1]; decide) (Or.inr c2)]
          exact Or.inr ⟨(show (2 : Nat) ≠ 0 by decide), c3⟩
        · have z : yfl 5 (kd k) = 8 := by
            have : ∀ a, a < 10 → a ≠ 1 → a ≠ 3 → yfl 5 a = 8 := by decide
            exact this _ (by omega) e c1
          rw [yfo_1 n2 z]
          exact Or.inr ⟨(show (1 : Nat) ≠ 0 by decide), c3⟩
theorem s_tell_18 {kd st : Nat → Nat} {K : Nat} (hkd : ∀ k, 1 ≤ kd k ∧ kd k ≤ 9) (hK : K ≤ 401) (hKs : ∀ k, k ≤ 400 → (∀ i, i < k → kd i ≠ 9) → k < K) {p : Nat} (hp : p ≤ 8) : ∀ (f k : Nat) (m : xmm), k + f = 401 → yMF kd st K m → yOk kd k m → ∃ m1, bX12_tellLine_144_18 m = some m1 ∧ yPg kd st (yfo kd f 7 p k) p f m1 ∧ yfm [] [11, 12, 13] m m1 := by
  intro f
  induction f with
  | zero =>
    intro k m hk hF hO
    have := hO.2.2.1
    omega
  | succ f ih =>
    intro k m hk hF hO
    have kb := hkd k
    have i : fX12_is_144 (2 : Int32) m = some (yP (kd k = 2), m) := s_is hkd hK hKs (a := 2) (by decide) hF hO
    have n2 : ¬ (kd k = 9 ∧ 7 = 2) := fun t => absurd t.2 (by decide)
    by_cases e : kd k = 2
    · have yp : yzfp 7 p (kd k) = p := by rw [e]; rfl
      obtain ⟨m1, a1, a2, a3, a4⟩ := s_passes hkd hK hKs hF hO (by omega)
      by_cases g : k < 400
      · obtain ⟨m', r1, r2, r3⟩ := ih (k + 1) m1 (by omega) (yMF_k hF a4 (by decide) (by decide)) (a2 g)
        refine ⟨m', ?_, ?_, yfm_t a4 r3⟩
        · apply bX12_tellLine_144_18_i
          rw [i, Option.bind_some, yP_t e, if_neg yn10]
          dsimp only
          rw [a1, Option.bind_some]
          exact r1
        · rw [yfo_go (s' := 7) n2 (by rw [e]; rfl) (by decide) yp hp g]
          exact yPg_m r2 (by omega)
      · refine ⟨m1, ?_, ?_, a4⟩
        · apply bX12_tellLine_144_18_i
          rw [i, Option.bind_some, yP_t e, if_neg yn10]
          dsimp only
          rw [a1, Option.bind_some]
          apply bX12_tellLine_144_18_i
          rw [s_isB (a3 g), Option.bind_some, if_pos rfl]
          dsimp only
          rw [s_mustB (a3 g)]; rfl
        · rw [yfo_2 n2 (by rw [e]; decide) (Or.inr g)]
          exact Or.inr ⟨(show (2 : Nat) ≠ 0 by decide), a3 g⟩
    · obtain ⟨m1, b1, b2, b3⟩ := s_must hkd hK hKs (a := 3) (by decide) hF hO
      have b1' : fX12_must_144 (4 : Int32) m = some m1 := b1
      refine ⟨m1, ?_, ?_, b3⟩
      · apply bX12_tellLine_144_18_i
        rw [i, Option.bind_some, yP_f e, if_pos rfl]
        dsimp only
        rw [b1']; rfl
      · rcases b2 with ⟨c1, c2, c3⟩ | ⟨c1, c2, c3⟩ | ⟨c1, c3⟩
        · rw [yfo_go (s' := 2) (p' := p) n2 (by rw [c1]; rfl) (by decide) (by rw [c1]; rfl) hp c2]
          exact Or.inl ⟨f, k + 1, by omega, by omega, rfl, c3⟩
        · rw [yfo_2 n2 (by rw [c1]; decide) (Or.inr c2)]
          exact Or.inr ⟨(show (2 : Nat) ≠ 0 by decide), c3⟩
        · have z : yfl 7 (kd k) = 8 := by
            have : ∀ a, a < 10 → a ≠ 2 → a ≠ 3 → yfl 7 a = 8 := by decide
            exact this _ (by omega) e c1
          rw [yfo_1 n2 z]
          exact Or.inr ⟨(show (1 : Nat) ≠ 0 by decide), c3⟩
theorem s_tellLine {kd st : Nat → Nat} {K : Nat} (hkd : ∀ k, 1 ≤ kd k ∧ kd k ≤ 9) (hK : K ≤ 401) (hKs : ∀ k, k ≤ 400 → (∀ i, i < k → kd i ≠ 9) → k < K) {p : Nat} (hp : p ≤ 8) {f k : Nat} {m : xmm} (hk : k + (f + 1) = 401) (hF : yMF kd st K m) (hO : yOk kd k m) (h9 : kd k ≠ 9) : ∃ m1, fX12_tellLine_144 m = some m1 ∧ yPg kd st (yfo kd (f + 1) 2 p k) p (f + 1) m1 ∧ yfm [] [11, 12, 13] m m1 := by
  have kb := hkd k
  have i7 : fX12_is_144 (23 : Int32) m = some (yP (kd k = 7), m) := s_is hkd hK hKs (a := 7) (by decide) hF hO
  have i5 : fX12_is_144 (21 : Int32) m = some (yP (kd k = 5), m) := s_is hkd hK hKs (a := 5) (by decide) hF hO
  have i6 : fX12_is_144 (22 : Int32) m = some (yP (kd k = 6), m) := s_is hkd hK hKs (a := 6) (by decide) hF hO
  have n2 : ¬ (kd k = 9 ∧ 2 = 2) := fun t => h9 t.1
  obtain ⟨m1, a1, a2, a3, a4⟩ := s_passes hkd hK hKs hF hO h9
  have F1 := yMF_k hF a4 (by decide) (by decide)
  by_cases e7 : kd k = 7
  · have st0 : ∀ {z : xmm}, ((fX12_must_144 (2 : Int32) m1).bind fun (w13 : xmm) => bX12_tellLine_144_18 w13) = some z → fX12_tellLine_144 m = some z := fun {z} hz => by
      apply fX12_tellLine_144_i
      rw [i7, Option.bind_some, yP_t e7, if_neg yn10]
      dsimp only
      rw [a1, Option.bind_some]
      exact hz
    by_cases g : k < 400
    · have O1 := a2 g
      rw [yfo_go (s' := 6) (p' := p) n2 (by rw [e7]; rfl) (by decide) (by rw [e7]; rfl) hp g]
      obtain ⟨f2, rfl⟩ : ∃ f2, f = f2 + 1 := ⟨f - 1, by omega⟩
      have kb1 := hkd (k + 1)
      have n6 : ¬ (kd (k + 1) = 9 ∧ 6 = 2) := fun t => absurd t.2 (by decide)
      obtain ⟨m2, b1, b2, b3⟩ := s_must hkd hK hKs (a := 2) (by decide) F1 O1
      have b1' : fX12_must_144 (2 : Int32) m1 = some m2 := b1
      have F2 := yMF_k F1 b3 (by decide) (by decide)
      rcases b2 with ⟨c1, c2, c3⟩ | ⟨c1, c2, c3⟩ | ⟨c1, c3⟩
      · rw [yfo_go (s' := 7) (p' := p) n6 (by rw [c1]; rfl) (by decide) (by rw [c1]; rfl) hp c2]
        obtain ⟨m3, d1, d2, d3⟩ := s_tell_18 hkd hK hKs hp f2 (k + 2) m2 (by omega) F2 c3
        refine ⟨m3, st0 ?_, yPg_m d2 (by omega), yfm_t a4 (yfm_t b3 d3)⟩
        rw [b1', Option.bind_some]
        exact d1
      · rw [yfo_2 n6 (by rw [c1]; decide) (Or.inr c2)]
        refine ⟨m2, st0 ?_, Or.inr ⟨(show (2 : Nat) ≠ 0 by decide), c3⟩, yfm_t a4 b3⟩
        rw [b1', Option.bind_some]
        apply bX12_tellLine_144_18_i
        rw [s_isB c3, Option.bind_some, if_pos rfl]
        dsimp only
        rw [s_mustB c3]; rfl
      · have z : yfl 6 (kd (k + 1)) = 8 := by
          have : ∀ a, a < 10 → a ≠ 2 → yfl 6 a = 8 := by decide
          exact this _ (by omega) c1
        rw [yfo_1 n6 z]
        refine ⟨m2, st0 ?_, Or.inr ⟨(show (1 : Nat) ≠ 0 by decide), c3⟩, yfm_t a4 b3⟩
        rw [b1', Option.bind_some]
        apply bX12_tellLine_144_18_i
        rw [s_isB c3, Option.bind_some, if_pos rfl]
        dsimp only
        rw [s_mustB c3]; rfl
    · have c3 := a3 g
      rw [yfo_2 n2 (by rw [e7]; decide) (Or.inr g)]
      refine ⟨m1, st0 ?_, Or.inr ⟨(show (2 : Nat) ≠ 0 by decide), c3⟩, a4⟩
      rw [s_mustB c3, Option.bind_some]
      apply bX12_tellLine_144_18_i
      rw [s_isB c3, Option.bind_some, if_pos rfl]
      dsimp only
      rw [s_mustB c3]; rfl
  by_cases e56 : kd k = 5 ∨ kd k = 6
  · have st0 : ∀ {z : xmm}, bX12_tellLine_144_51 m = some z → fX12_tellLine_144 m = some z := fun {z} hz => by
      apply fX12_tellLine_144_i
      rw [i7, Option.bind_some, yP_f e7, if_pos rfl]
      dsimp only
      rw [i5, Option.bind_some]
      by_cases e5 : kd k = 5
      · rw [yP_t e5, if_neg yn10]; exact hz
      · rw [yP_f e5, if_pos rfl]
        dsimp only
        rw [i6, Option.bind_some, yP_t (e56.resolve_left e5), if_neg yn10]; exact hz
    have st1 : ∀ {z : xmm}, ((fX12_must_144 (1 : Int32) m1).bind fun (w3 : xmm) => (fX12_must_144 (1 : Int32) w3).bind fun (w5 : xmm) => bX12_tellLine_144_65 w5) = some z → fX12_tellLine_144 m = some z := fun {z} hz => by
      apply st0
      apply bX12_tellLine_144_51_i
      rw [a1, Option.bind_some]
      exact hz
    have stB : ∀ {o j : Nat} {m' : xmm}, yBd st o j m' → bX12_tellLine_144_65 m' = some m' := fun {o j m'} c3 => by
      apply bX12_tellLine_144_65_i
      rw [s_isB c3, Option.bind_some, if_pos rfl]
      dsimp only
      rw [s_mustB c3]; rfl
    have l3 : yfl 2 (kd k) = 3 := by rcases e56 with e | e <;> rw [e] <;> rfl
    have lp : yzfp 2 p (kd k) = p := by rcases e56 with e | e <;> rw [e] <;> rfl
    by_cases g : k < 400
    · have O1 := a2 g
      rw [yfo_go (s' := 3) (p' := p) n2 l3 (by decide) lp hp g]
      obtain ⟨f2, rfl⟩ : ∃ f2, f = f2 + 1 := ⟨f - 1, by omega⟩
      have kb1 := hkd (k + 1)
      have n3 : ¬ (kd (k + 1) = 9 ∧ 3 = 2) := fun t => absurd t.2 (by decide)
      obtain ⟨m2, b1, b2, b3⟩ := s_must hkd hK hKs (a := 1) (by decide) F1 O1
      have b1' : fX12_must_144 (1 : Int32) m1 = some m2 := b1
      have F2 := yMF_k F1 b3 (by decide) (by decide)
      rcases b2 with ⟨c1, c2, c3⟩ | ⟨c1, c2, c3⟩ | ⟨c1, c3⟩
      · rw [yfo_go (s' := 4) (p' := p) n3 (by rw [c1]; rfl) (by decide) (by rw [c1]; rfl) hp c2]
        obtain ⟨f3, rfl⟩ : ∃ f3, f2 = f3 + 1 := ⟨f2 - 1, by omega⟩
        have kb2 := hkd (k + 1 + 1)
        have n4 : ¬ (kd (k + 1 + 1) = 9 ∧ 4 = 2) := fun t => absurd t.2 (by decide)
        obtain ⟨m3, d1, d2, d3⟩ := s_must hkd hK hKs (a := 1) (by decide) F2 c3
        have d1' : fX12_must_144 (1 : Int32) m2 = some m3 := d1
        have F3 := yMF_k F2 d3 (by decide) (by decide)
        rcases d2 with ⟨g1, g2, g3⟩ | ⟨g1, g2, g3⟩ | ⟨g1, g3⟩
        · rw [yfo_go (s' := 5) (p' := p) n4 (by rw [g1]; rfl) (by decide) (by rw [g1]; rfl) hp g2]
          obtain ⟨m4, q1, q2, q3⟩ := s_tell_65 hkd hK hKs hp f3 (k + 1 + 1 + 1) m3 (by omega) F3 g3
          refine ⟨m4, st1 ?_, yPg_m q2 (by omega), yfm_t a4 (yfm_t b3 (yfm_t d3 q3))⟩
          rw [b1', Option.bind_some, d1', Option.bind_some]
          exact q1
        · rw [yfo_2 n4 (by rw [g1]; decide) (Or.inr g2)]
          refine ⟨m3, st1 ?_, Or.inr ⟨(show (2 : Nat) ≠ 0 by decide), g3⟩, yfm_t a4 (yfm_t b3 d3)⟩
          rw [b1', Option.bind_some, d1', Option.bind_some]
          exact stB g3
        · have z : yfl 4 (kd (k + 1 + 1)) = 8 := by
            have : ∀ a, a < 10 → a ≠ 1 → yfl 4 a = 8 := by decide
            exact this _ (by omega) g1
          rw [yfo_1 n4 z]
          refine ⟨m3, st1 ?_, Or.inr ⟨(show (1 : Nat) ≠ 0 by decide), g3⟩, yfm_t a4 (yfm_t b3 d3)⟩
          rw [b1', Option.bind_some, d1', Option.bind_some]
          exact stB g3
      · rw [yfo_2 n3 (by rw [c1]; decide) (Or.inr c2)]
        refine ⟨m2, st1 ?_, Or.inr ⟨(show (2 : Nat) ≠ 0 by decide), c3⟩, yfm_t a4 b3⟩
        rw [b1', Option.bind_some, s_mustB c3, Option.bind_some]
        exact stB c3
      · have z : yfl 3 (kd (k + 1)) = 8 := by
          have : ∀ a, a < 10 → a ≠ 1 → yfl 3 a = 8 := by decide
          exact this _ (by omega) c1
        rw [yfo_1 n3 z]
        refine ⟨m2, st1 ?_, Or.inr ⟨(show (1 : Nat) ≠ 0 by decide), c3⟩, yfm_t a4 b3⟩
        rw [b1', Option.bind_some, s_mustB c3, Option.bind_some]
        exact stB c3
    · have c3 := a3 g
      rw [yfo_2 n2 (by rw [l3]; decide) (Or.inr g)]
      refine ⟨m1, st1 ?_, Or.inr ⟨(show (2 : Nat) ≠ 0 by decide), c3⟩, a4⟩
      rw [s_mustB c3, Option.bind_some, s_mustB c3, Option.bind_some]
      exact stB c3
  · have z : yfl 2 (kd k) = 8 := by
      have : ∀ a, a < 10 → a ≠ 7 → ¬ (a = 5 ∨ a = 6) → yfl 2 a = 8 := by decide
      exact this _ (by omega) e7 e56
    rw [yfo_1 n2 z]
    obtain ⟨m2, b1, b2, b3⟩ := s_fail (o := 1) hkd hK hKs (by decide) hF hO
    have b1' : fX12_fail_144 (1 : Int32) m = some m2 := b1
    refine ⟨m2, ?_, Or.inr ⟨(show (1 : Nat) ≠ 0 by decide), b2⟩, b3⟩
    apply fX12_tellLine_144_i
    rw [i7, Option.bind_some, yP_f e7, if_pos rfl]
    dsimp only
    rw [i5, Option.bind_some, yP_f (fun t => e56 (Or.inl t)), if_pos rfl]
    dsimp only
    rw [i6, Option.bind_some, yP_f (fun t => e56 (Or.inr t)), if_pos rfl]
    dsimp only
    rw [b1', Option.bind_some, s_mustB b2]
    rfl
/-- the end of the form -/
def yzFe (st : Nat → Nat) (r : Nat × Nat) (m : xmm) : Prop := (r.1 = 0 → m.1 144 12 = nI 0) ∧ (r.1 ≠ 0 → yBd st r.1 r.2 m)
theorem s_118 {kd st : Nat → Nat} {K : Nat} (hkd : ∀ k, 1 ≤ kd k ∧ kd k ≤ 9) (hK : K ≤ 401) (hKs : ∀ k, k ≤ 400 → (∀ i, i < k → kd i ≠ 9) → k < K) {p : Nat} (hp : p ≤ 8) : ∀ (F f k : Nat) (m : xmm), f ≤ F → k + f = 401 → yMF kd st K m → yOk kd k m → ∃ m1, (∀ {z : Int32 × xmm}, bX12_read_144_142 (0 : Int32) m1 = some z → bX12_read_144_118 m = some z) ∧ yzFe st (yfo kd f 2 p k) m1 ∧ yfm [] [11, 12, 13] m m1 := by
  have bad : ∀ {o j : Nat} {m : xmm}, yBd st o j m → ∀ {z : Int32 × xmm}, bX12_read_144_142 (0 : Int32) m = some z → bX12_read_144_118 m = some z := fun {o j m} hb {z} hz => by
    have b := hb.2.2.1
    apply bX12_read_144_118_i
    rw [hb.1, if_neg (nI_ne0 hb.2.1 (by omega))]
    exact hz
  intro F
  induction F with
  | zero =>
    intro f k m hf hk hF hO
    have := hO.2.2.1
    omega
  | succ F ih =>
    intro f k m hf hk hF hO
    obtain ⟨f, rfl⟩ : ∃ f2, f = f2 + 1 := ⟨f - 1, by have := hO.2.2.1; omega⟩
    have i9 : fX12_is_144 (0 : Int32) m = some (yP (kd k = 9), m) := s_is hkd hK hKs (a := 9) (by decide) hF hO
    have z0 : m.1 144 12 = (0 : Int32) := hO.2.1
    by_cases e : kd k = 9
    · rw [yfo_end ⟨e, rfl⟩]
      refine ⟨m, fun {z} hz => ?_, ⟨fun _ => hO.2.1, fun t => absurd rfl t⟩, yfm_r⟩
      apply bX12_read_144_118_i
      rw [if_pos z0, i9, Option.bind_some, yP_t e, if_neg yn10]
      exact hz
    · obtain ⟨m1, a1, a2, a3⟩ := s_tellLine hkd hK hKs hp hk hF hO e
      have st0 : ∀ {z : Int32 × xmm}, bX12_read_144_118 m1 = some z → bX12_read_144_118 m = some z := fun {z} hz => by
        apply bX12_read_144_118_i
        rw [if_pos z0, i9, Option.bind_some, yP_f e, if_pos rfl]
        dsimp only
        rw [a1, Option.bind_some]
        exact hz
      rcases a2 with ⟨f', k', b1, b2, b3, b4⟩ | ⟨b1, b2⟩
      · obtain ⟨m2, c1, c2, c3⟩ := ih f' k' m1 (by omega) b1 (yMF_k hF a3 (by decide) (by decide)) b4
        rw [b3]
        exact ⟨m2, fun {z} hz => st0 (c1 hz), c2, yfm_t a3 c3⟩
      · exact ⟨m1, fun {z} hz => st0 (bad b2 hz), ⟨fun t => absurd t b1, fun _ => b2⟩, a3⟩
theorem s_71 {kd st : Nat → Nat} {K : Nat} (hkd : ∀ k, 1 ≤ kd k ∧ kd k ≤ 9) (hK : K ≤ 401) (hKs : ∀ k, k ≤ 400 → (∀ i, i < k → kd i ≠ 9) → k < K) : ∀ (f k p : Nat) (m : xmm), p ≤ 8 → k + f = 401 → yMF kd st K m → yOk kd k m → m.1 144 20 = nI p → ∃ m1, (∀ {z : Int32 × xmm}, bX12_read_144_142 (0 : Int32) m1 = some z → bX12_read_144_71 m = some z) ∧ yzFe st (yfo kd f 1 p k) m1 ∧ yfm [] [11, 12, 13, 20] m m1 := by
  have bad : ∀ {o j : Nat} {m : xmm}, yBd st o j m → ∀ {z : Int32 × xmm}, bX12_read_144_142 (0 : Int32) m = some z → bX12_read_144_71 m = some z := fun {o j m} hb {z} hz => by
    have b := hb.2.2.1
    apply bX12_read_144_71_i
    rw [s_isB hb, Option.bind_some, if_pos rfl]
    dsimp only
    rw [s_mustB hb, Option.bind_some]
    apply bX12_read_144_118_i
    rw [hb.1, if_neg (nI_ne0 hb.2.1 (by omega))]
    exact hz
  intro f
  induction f with
  | zero =>
    intro k p m hp hk hF hO
    have := hO.2.2.1
    omega
  | succ f ih =>
    intro k p m hp hk hF hO h20
    have kb := hkd k
    have n1 : ¬ (kd k = 9 ∧ 1 = 2) := fun t => absurd t.2 (by decide)
    have i1 : fX12_is_144 (1 : Int32) m = some (yP (kd k = 1), m) := s_is hkd hK hKs (a := 1) (by decide) hF hO
    by_cases e : kd k = 1
    · have yp : yzfp 1 p (kd k) = p + 1 := by rw [e]; rfl
      by_cases p8 : p = 8
      · obtain ⟨m1, a1, a2, a3⟩ := s_fail (o := 2) hkd hK hKs (by decide) hF hO
        have a1' : fX12_fail_144 (2 : Int32) m = some m1 := a1
        have B2 : yBd st 2 k (xwi m1 144 20 (m1.1 144 20 + 1)) := ⟨by rw [xwi_i (by decide)]; exact a2.1, a2.2.1, a2.2.2.1, by rw [xwi_i (by decide)]; exact a2.2.2.2⟩
        rw [yfo_2 (p := p) n1 (by rw [e]; decide) (Or.inl (by omega))]
        refine ⟨xwi m1 144 20 (m1.1 144 20 + 1), fun {z} hz => ?_, ⟨fun t => absurd t (show (2 : Nat) ≠ 0 by decide), fun _ => B2⟩, yfm_f (yfm_m a3 (by decide) (by decide)) (by decide)⟩
        apply bX12_read_144_71_i
        rw [i1, Option.bind_some, yP_t e, if_neg yn10]
        dsimp only
        rw [h20, if_pos (by rw [p8]; rfl), a1', Option.bind_some]
        apply bX12_read_144_100_i
        rw [xlt_e]
        exact bad B2 hz
      · obtain ⟨m1, a1, a2, a3, a4⟩ := s_passes hkd hK hKs hF hO (by omega)
        have e20 : m1.1 144 20 = nI p := by rw [a4.2 20 (by decide)]; exact h20
        have f2 : yfm [] [11, 12, 13, 20] m (xwi m1 144 20 (nI (p + 1))) := yfm_f (yfm_m a4 (by decide) (by decide)) (by decide)
        have st0 : ∀ {z : Int32 × xmm}, bX12_read_144_71 (xwi m1 144 20 (nI (p + 1))) = some z → bX12_read_144_71 m = some z := fun {z} hz => by
          apply bX12_read_144_71_i
          rw [i1, Option.bind_some, yP_t e, if_neg yn10]
          dsimp only
          rw [h20, if_neg (fun t => p8 (by rw [yl8, nI_eq (by omega) (by decide)] at t; exact t)), a1, Option.bind_some]
          apply bX12_read_144_100_i
          rw [e20, nI_1, xlt_e]
          exact hz
        by_cases g : k < 400
        · have O1 := a2 g
          obtain ⟨m2, r1, r2, r3⟩ := ih (k + 1) (p + 1) (xwi m1 144 20 (nI (p + 1))) (by omega) (by omega) (yMF_k hF f2 (by decide) (by decide)) ⟨by rw [xwi_i (by decide)]; exact O1.1, by rw [xwi_i (by decide)]; exact O1.2.1, O1.2.2⟩ (xwi_e _ _ _ _)
          rw [yfo_go (s' := 1) n1 (by rw [e]; rfl) (by decide) yp (by omega) g]
          exact ⟨m2, fun {z} hz => st0 (r1 hz), r2, yfm_t f2 r3⟩
        · have b := a3 g
          have B2 : yBd st 2 k (xwi m1 144 20 (nI (p + 1))) := ⟨by rw [xwi_i (by decide)]; exact b.1, b.2.1, b.2.2.1, by rw [xwi_i (by decide)]; exact b.2.2.2⟩
          rw [yfo_2 n1 (by rw [e]; decide) (Or.inr g)]
          exact ⟨_, fun {z} hz => st0 (bad B2 hz), ⟨fun t => absurd t (show (2 : Nat) ≠ 0 by decide), fun _ => B2⟩, f2⟩
    · obtain ⟨m1, b1, b2, b3⟩ := s_must hkd hK hKs (a := 3) (by decide) hF hO
      have b1' : fX12_must_144 (4 : Int32) m = some m1 := b1
      have st0 : ∀ {z : Int32 × xmm}, bX12_read_144_118 m1 = some z → bX12_read_144_71 m = some z := fun {z} hz => by
        apply bX12_read_144_71_i
        rw [i1, Option.bind_some, yP_f e, if_pos rfl]
        dsimp only
        rw [b1', Option.bind_some]
        exact hz
      have bad2 : ∀ {o j : Nat} {m : xmm}, yBd st o j m → ∀ {z : Int32 × xmm}, bX12_read_144_142 (0 : Int32) m = some z → bX12_read_144_118 m = some z := fun {o j m} hb {z} hz => by
        have b := hb.2.2.1
        apply bX12_read_144_118_i
        rw [hb.1, if_neg (nI_ne0 hb.2.1 (by omega))]
        exact hz
      have f2 : yfm [] [11, 12, 13, 20] m m1 := yfm_m b3 (by decide) (by decide)
      rcases b2 with ⟨c1, c2, c3⟩ | ⟨c1, c2, c3⟩ | ⟨c1, c3⟩
      · rw [yfo_go (s' := 2) (p' := p) n1 (by rw [c1]; rfl) (by decide) (by rw [c1]; rfl) hp c2]
        obtain ⟨m2, r1, r2, r3⟩ := s_118 hkd hK hKs hp f f (k + 1) m1 (Nat.le_refl f) (by omega) (yMF_k hF b3 (by decide) (by decide)) c3
        exact ⟨m2, fun {z} hz => st0 (r1 hz), r2, yfm_t f2 (yfm_m r3 (by decide) (by decide))⟩
      · rw [yfo_2 n1 (by rw [c1]; decide) (Or.inr c2)]
        exact ⟨m1, fun {z} hz => st0 (bad2 c3 hz), ⟨fun t => absurd t (show (2 : Nat) ≠ 0 by decide), fun _ => c3⟩, f2⟩
      · have z : yfl 1 (kd k) = 8 := by
          have : ∀ a, a < 10 → a ≠ 1 → a ≠ 3 → yfl 1 a = 8 := by decide
          exact this _ (by omega) e c1
        rw [yfo_1 n1 z]
        exact ⟨m1, fun {z} hz => st0 (bad2 c3 hz), ⟨fun t => absurd t (show (1 : Nat) ≠ 0 by decide), fun _ => c3⟩, f2⟩
theorem s_mform {kd st : Nat → Nat} {K : Nat} (hkd : ∀ k, 1 ≤ kd k ∧ kd k ≤ 9) (hK : K ≤ 401) (hKs : ∀ k, k ≤ 400 → (∀ i, i < k → kd i ≠ 9) → k < K) {m : xmm} (hF : yMF kd st K m) (hO : yOk kd 0 m) (h20 : m.1 144 20 = nI 0) : ∃ m1, (∀ {z : Int32 × xmm}, bX12_read_144_142 (0 : Int32) m1 = some z → ((fX12_must_144 (20 : Int32) m).bind fun (w8 : xmm) => bX12_read_144_71 w8) = some z) ∧ yzFe st (yfo kd 401 0 0 0) m1 ∧ yfm [] [11, 12, 13, 20] m m1 := by
  have kb := hkd 0
  have n0 : ¬ (kd 0 = 9 ∧ 0 = 2) := fun t => absurd t.2 (by decide)
  obtain ⟨m1, b1, b2, b3⟩ := s_must hkd hK hKs (a := 4) (by decide) hF hO
  have b1' : fX12_must_144 (20 : Int32) m = some m1 := b1
  have f2 : yfm [] [11, 12, 13, 20] m m1 := yfm_m b3 (by decide) (by decide)
  rcases b2 with ⟨c1, c2, c3⟩ | ⟨c1, c2, c3⟩ | ⟨c1, c3⟩
  · rw [yfo_go (f := 400) (s' := 1) (p' := 0) n0 (by rw [c1]; rfl) (by decide) (by rw [c1]; rfl) (by decide) c2]
    obtain ⟨m2, r1, r2, r3⟩ := s_71 hkd hK hKs 400 1 0 m1 (by decide) (by decide) (yMF_k hF b3 (by decide) (by decide)) c3 (by rw [b3.2 20 (by decide)]; exact h20)
    refine ⟨m2, fun {z} hz => ?_, r2, yfm_t f2 r3⟩
    rw [b1', Option.bind_some]
    exact r1 hz
  · exact absurd (by decide) c2
  · have z : yfl 0 (kd 0) = 8 := by
      have : ∀ a, a < 10 → a ≠ 4 → yfl 0 a = 8 := by decide
      exact this _ (by omega) c1
    rw [yfo_1 (f := 400) n0 z]
    refine ⟨m1, fun {z} hz => ?_, ⟨fun t => absurd t (show (1 : Nat) ≠ 0 by decide), fun _ => c3⟩, f2⟩
    rw [b1', Option.bind_some]
    apply bX12_read_144_71_i
    rw [s_isB c3, Option.bind_some, if_pos rfl]
    dsimp only
    rw [s_mustB c3, Option.bind_some]
    apply bX12_read_144_118_i
    have b := c3.2.2.1
    rw [c3.1, if_neg (nI_ne0 c3.2.1 (by omega))]
    exact hz
