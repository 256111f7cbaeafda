/-! the past and what is held: the model -/
def yNc (N : yNW) (r : Nat) : Nat := if r < 8 then N.1 r else N.2
def y9 (v base : Nat) (N : yNW) (m : xmm) : Prop := ∀ r, r < 9 → m.1 v (base + r) = nI (yNc N r)
theorem y9_8 {v : Nat} {N : yNW} {m : xmm} (h : y9 v 0 N m) : yrw v N.1 m ∧ m.1 v 8 = nI N.2 := ⟨fun p hp => by
  have := h p (by omega)
  rw [Nat.zero_add] at this
  rw [this]
  unfold yNc
  rw [if_pos hp], by
  have := h 8 (by decide)
  exact this⟩
theorem y9_of {v : Nat} {N : yNW} {m : xmm} (h1 : yrw v N.1 m) (h2 : m.1 v 8 = nI N.2) : y9 v 0 N m := fun r hr => by
  rw [Nat.zero_add]
  unfold yNc
  by_cases h : r < 8
  · rw [if_pos h]; exact h1 r h
  · have : r = 8 := by omega
    subst this
    rw [if_neg h]; exact h2
def yMPs (h : Nat) (H : Nat → yNW) (m : xmm) : Prop := ∃ e, e < 40 ∧ h ≤ 40 ∧ m.1 144 24 = nI e ∧ m.1 144 25 = nI h ∧ ∀ i, i < h → y9 156 (9 * ((e + h - 1 - i) % 40)) (H i) m
def yMHd (hd : Nat → Prop) (K : Nat → yNW) (m : xmm) : Prop := ∀ i, i < 3 → m.1 158 i = yP (hd i) ∧ (hd i → y9 157 (9 * i) (K i) m)
/-- the model -/
def yMM (n : Nat) (N : yNW) (h : Nat) (H : Nat → yNW) (hd : Nat → Prop) (K : Nat → yNW) (m : xmm) : Prop := m.1 144 17 = nI n ∧ y9 152 0 N m ∧ yMPs h H m ∧ yMHd hd K m
theorem yMM_n {n : Nat} {N : yNW} {h : Nat} {H : Nat → yNW} {hd : Nat → Prop} {K : Nat → yNW} {m : xmm} (hc : yMM n N h H hd K m) : yMN n N.1 m ∧ m.1 152 8 = nI N.2 := ⟨⟨hc.1, (y9_8 hc.2.1).1⟩, (y9_8 hc.2.1).2⟩
theorem y9_r {v base : Nat} {N : yNW} {L : List Nat} {m m' : xmm} (h : y9 v base N m) (hf : yfr L m m') (h1 : v ∉ L) : y9 v base N m' := fun r hr => by rw [yfr_1 hf v _ h1]; exact h r hr
/-- what the model's methods leave: the class, the script, the tape, the fields below 17 -/
def yMk (m m' : xmm) : Prop := yHi m m' ∧ (∀ i, i < 17 → m'.1 144 i = m.1 144 i) ∧ ∀ k, 145 ≤ k → k < 152 → (∀ i, m'.1 k i = m.1 k i) ∧ ∀ i, m'.2 k i = m.2 k i
theorem yMk_t {m m' m'' : xmm} (h : yMk m m') (h' : yMk m' m'') : yMk m m'' := ⟨yHi_t h.1 h'.1, fun i h4 => (h'.2.1 i h4).trans (h.2.1 i h4), fun k h1 h2 => ⟨fun i => ((h'.2.2 k h1 h2).1 i).trans ((h.2.2 k h1 h2).1 i), fun i => ((h'.2.2 k h1 h2).2 i).trans ((h.2.2 k h1 h2).2 i)⟩⟩
theorem yMk_r (m : xmm) : yMk m m := ⟨yHi_r m, fun _ _ => rfl, fun _ _ _ => ⟨fun _ => rfl, fun _ => rfl⟩⟩
theorem yMk_f {L J : List Nat} {m m' : xmm} (h : yfm L J m m') (hL : ∀ k, k ∈ L → 151 < k ∧ k < 1900) (hJ : ∀ j, j ∈ J → 17 ≤ j) : yMk m m' := ⟨yHi_of h.1 fun k hk => by
  rcases List.mem_cons.mp hk with e | e
  · omega
  · have := hL k e; omega, fun i hi => h.2 i fun t => by have := hJ i t; omega, fun k h1 h2 => h.1 k fun t => by
  rcases List.mem_cons.mp t with e | e
  · omega
  · have := hL k e; omega⟩
theorem yMk_of {L : List Nat} {m m' : xmm} (h : yfr L m m') (hL : ∀ k, k ∈ L → 151 < k ∧ k < 1900) : yMk m m' := yMk_f (J := []) (yfm_of h fun t => by have := hL 144 t; omega) hL (fun j hj => absurd hj List.not_mem_nil)
theorem y9_m {v base : Nat} {N : yNW} {L J : List Nat} {m m' : xmm} (h : y9 v base N m) (hf : yfm L J m m') (h1 : v ∉ 144 :: L) : y9 v base N m' := y9_r h hf.1 h1
theorem yMPs_f {h : Nat} {H : Nat → yNW} {L J : List Nat} {m m' : xmm} (hc : yMPs h H m) (hf : yfm L J m m') (h1 : 156 ∉ 144 :: L) (h2 : 24 ∉ J) (h3 : 25 ∉ J) : yMPs h H m' := by
  obtain ⟨e, e1, e2, e3, e4, e5⟩ := hc
  exact ⟨e, e1, e2, by rw [hf.2 24 h2]; exact e3, by rw [hf.2 25 h3]; exact e4, fun i hi => y9_m (e5 i hi) hf h1⟩
theorem yMHd_f {hd : Nat → Prop} {K : Nat → yNW} {L J : List Nat} {m m' : xmm} (hc : yMHd hd K m) (hf : yfm L J m m') (h1 : 157 ∉ 144 :: L) (h2 : 158 ∉ 144 :: L) : yMHd hd K m' := fun i hi => ⟨by rw [yfm_1 hf 158 i h2]; exact (hc i hi).1, fun h => y9_m ((hc i hi).2 h) hf h1⟩
theorem yMM_f {n : Nat} {N : yNW} {h : Nat} {H : Nat → yNW} {hd : Nat → Prop} {K : Nat → yNW} {L J : List Nat} {m m' : xmm} (hc : yMM n N h H hd K m) (hf : yfm L J m m') (hL : ∀ k, k ∈ L → 158 < k) (hJ : ∀ j, j ∈ J → 25 < j) : yMM n N h H hd K m' := by
  have o : ∀ k, k ≠ 144 → k ≤ 158 → k ∉ 144 :: L := by
    intro k h1 h2 t
    rcases List.mem_cons.mp t with e | e
    · exact h1 e
    · have := hL k e; omega
  have oj : ∀ j, j ≤ 25 → j ∉ J := fun j h1 t => by have := hJ j t; omega
  exact ⟨by rw [hf.2 17 (oj 17 (by omega))]; exact hc.1, y9_m hc.2.1 hf (o 152 (by omega) (by omega)), yMPs_f hc.2.2.1 hf (o 156 (by omega) (by omega)) (oj 24 (by omega)) (oj 25 (by omega)), yMHd_f hc.2.2.2 hf (o 157 (by omega) (by omega)) (o 158 (by omega) (by omega))⟩
theorem yMM_r {n : Nat} {N : yNW} {h : Nat} {H : Nat → yNW} {hd : Nat → Prop} {K : Nat → yNW} {L : List Nat} {m m' : xmm} (hc : yMM n N h H hd K m) (hf : yfr L m m') (hL : ∀ k, k ∈ L → 158 < k) : yMM n N h H hd K m' := yMM_f (J := []) hc (yfm_of hf fun t => by have := hL 144 t; omega) hL (fun j hj => absurd hj List.not_mem_nil)
theorem s_marks_50 {N : yNW} {b : Nat} (hb : b + 9 ≤ 360) : ∀ (d k : Nat) (m : xmm), k + d = 9 → y9 152 0 N m → (∀ r, r < k → m.1 156 (b + r) = nI (yNc N r)) → ∃ m', (∀ {z : xmm}, bX12_marks_144_50 (nI b) (nI 9) m' = some z → bX12_marks_144_50 (nI b) (nI k) m = some z) ∧ y9 156 b N m' ∧ (∀ i, (i < b ∨ b + 9 ≤ i) → m'.1 156 i = m.1 156 i) ∧ yfr [156] m m' := by
  intro d
  induction d with
  | zero =>
    intro k m hk h9 h1
    have e : k = 9 := by omega
    subst e
    exact ⟨m, fun h => h, h1, fun _ _ => rfl, yfr_r⟩
  | succ d ih =>
    intro k m hk h9 h1
    have fr : yfr [156] m (xwi m 156 (b + k) (nI (yNc N k))) := yfr_w yfr_r (by decide)
    obtain ⟨m', e1, e2, e3, e4⟩ := ih (k + 1) _ (by omega) (y9_r h9 fr (by decide)) (fun r hr => by
      by_cases e : r = k
      · subst e; rw [xwi_e]
      · rw [xwi_i (by omega)]; exact h1 r (by omega))
    refine ⟨m', fun {z} hz => ?_, e2, fun i hi => by rw [e3 i hi, xwi_i (by omega)], yfr_t fr e4⟩
    have c := h9 k (by omega)
    rw [Nat.zero_add] at c
    apply bX12_marks_144_50_i
    have i360 : xinb 360 (nI (b + k)) = true := xinb_t (by omega) (by decide)
    simp (disch := omega) only [yl3, yl4, yl5, yl6, yl7, yl8, yl9, yl10, yl13, yl16, yl20, yl21, yl22, yl23, yl24, yl32, yl40, yl48, yl57, yl59, yl63, yl64, yl97, yl99, yl122, yl255, yl256, yl400, yl1000, yl2000, yl2048, yc0_eq, yc0_eq2, yc0_le, yc0_ge, yc0_lt, yc0_gt, yc0_ad, yc0_da, yc0_sb, yc0_ml, yc0_lm, yc1_eq, yc1_eq2, yc1_le, yc1_ge, yc1_lt, yc1_gt, yc1_ad, yc1_da, yc1_sb, yc1_ml, yc1_lm, yc2_eq, yc2_eq2, yc2_le, yc2_ge, yc2_lt, yc2_gt, yc2_ad, yc2_da, yc2_sb, yc2_ml, yc2_lm, yc31_ge, ymodn, yI_1sl, yc2_dv, yn1_eq, yn1_lt, xgd_t, xlt_e, Option.bind_some, nI_add, pk_mul, pk_sub, pk_div, pk_rem, yI_and, yI_or, yI_xor, yI_nd, yI_nd2, yI_31, yI_shl, nI_leI, nI_ltI, nI_eq, nI_clamp, xinb_t, yP_z, yP_if, if_neg, i360, c]
    exact e1 hz
theorem s_marks_32 {N : yNW} {e h : Nat} (he : e < 40) (hh : h < 40) {H : Nat → yNW} {m : xmm} (h9 : y9 152 0 N m) (h24 : m.1 144 24 = nI e) (h25 : m.1 144 25 = nI h) (hH : ∀ i, i < h → y9 156 (9 * ((e + h - 1 - i) % 40)) (H i) m) : ∃ m', bX12_marks_144_32 m = some m' ∧ m'.1 144 24 = nI e ∧ m'.1 144 25 = nI (h + 1) ∧ (∀ i, i < h + 1 → y9 156 (9 * ((e + (h + 1) - 1 - i) % 40)) (ypu N H i) m') ∧ yfm [156] [25] m m' := by
  obtain ⟨m1, e1, e2, e3, e4⟩ := s_marks_50 (N := N) (b := 9 * ((e + h) % 40)) (by omega) 9 0 m rfl h9 (fun r hr => absurd hr (Nat.not_lt_zero r))
  refine ⟨xwi m1 144 25 (nI (h + 1)), ?_, ?_, xwi_e _ _ _ _, fun i hi r hr => ?_, ?_⟩
  · have l9 : (9 : Int32) = nI 9 := rfl
    apply bX12_marks_144_32_i
    rw [h24, h25, nI_add, y40 (by omega), l9, pk_mul, xlt_e]
    refine e1 ?_
    apply bX12_marks_144_50_i
    have w : m1.1 144 25 = nI h := by rw [yfr_1 e4 144 25 (by decide)]; exact h25
    simp (disch := omega) only [yl3, yl4, yl5, yl6, yl7, yl8, yl9, yl10, yl13, yl16, yl20, yl21, yl22, yl23, yl24, yl32, yl40, yl48, yl57, yl59, yl63, yl64, yl97, yl99, yl122, yl255, yl256, yl400, yl1000, yl2000, yl2048, yc0_eq, yc0_eq2, yc0_le, yc0_ge, yc0_lt, yc0_gt, yc0_ad, yc0_da, yc0_sb, yc0_ml, yc0_lm, yc1_eq, yc1_eq2, yc1_le, yc1_ge, yc1_lt, yc1_gt, yc1_ad, yc1_da, yc1_sb, yc1_ml, yc1_lm, yc2_eq, yc2_eq2, yc2_le, yc2_ge, yc2_lt, yc2_gt, yc2_ad, yc2_da, yc2_sb, yc2_ml, yc2_lm, yc31_ge, ymodn, yI_1sl, yc2_dv, yn1_eq, yn1_lt, xgd_t, xlt_e, Option.bind_some, nI_add, pk_mul, pk_sub, pk_div, pk_rem, yI_and, yI_or, yI_xor, yI_nd, yI_nd2, yI_31, yI_shl, nI_leI, nI_ltI, nI_eq, nI_clamp, xinb_t, yP_z, yP_if, if_pos, w]
  · rw [xwi_i (by decide), yfr_1 e4 144 24 (by decide)]; exact h24
  · rw [xwi_k (by decide)]
    unfold ypu
    by_cases e0 : i = 0
    · subst e0
      rw [if_pos rfl]
      have en : e + (h + 1) - 1 - 0 = e + h := by omega
      rw [en]
      exact e2 r hr
    · rw [if_neg e0]
      have en : e + (h + 1) - 1 - i = e + h - 1 - (i - 1) := by omega
      have ne : (e + h - 1 - (i - 1)) % 40 ≠ (e + h) % 40 := by omega
      rw [en, e3 _ (by omega)]
      exact hH (i - 1) (by omega) r hr
  · exact yfm_f (yfm_of e4 (by decide)) (by decide)
/-- the model marks what is -/
theorem s_marks {n : Nat} {N : yNW} {h : Nat} {H : Nat → yNW} {hd : Nat → Prop} {K : Nat → yNW} {m : xmm} (hc : yMM n N h H hd K m) : ∃ m', fX12_marks_144 m = some m' ∧ yMM n N (yhn h) (ypu N H) hd K m' ∧ yMk m m' := by
  obtain ⟨c1, c2, ⟨e, e1, e2, e3, e4, e5⟩, c4⟩ := hc
  have e40 : (40 : Int32) = nI 40 := rfl
  by_cases hh : h < 40
  · obtain ⟨m', a1, a2, a3, a4, a5⟩ := s_marks_32 e1 hh c2 e3 e4 e5
    have eh : yhn h = h + 1 := if_pos hh
    refine ⟨m', ?_, ⟨by rw [a5.2 17 (by decide)]; exact c1, y9_m c2 a5 (by decide), ⟨e, e1, by rw [eh]; omega, a2, by rw [eh]; exact a3, by rw [eh]; exact a4⟩, yMHd_f c4 a5 (by decide) (by decide)⟩, yMk_f a5 (by decide) (by decide)⟩
    apply fX12_marks_144_i
    have ne : ¬ nI h = (40 : Int32) := by rw [e40, nI_eq (by omega) (by omega)]; omega
    rw [e4, if_neg ne]
    exact a1
  · have h40 : h = 40 := by omega
    subst h40
    have f0 : yfm [] [24, 25] m (xwi (xwi m 144 24 (nI ((e + 1) % 40))) 144 25 (nI 39)) := yfm_f (yfm_f yfm_r (by decide)) (by decide)
    obtain ⟨m', a1, a2, a3, a4, a5⟩ := s_marks_32 (e := (e + 1) % 40) (h := 39) (H := H) (by omega) (by omega) (y9_m c2 f0 (by decide)) (by rw [xwi_i (by decide), xwi_e]) (xwi_e _ _ _ _) (fun i hi => by
      have en : ((e + 1) % 40 + 39 - 1 - i) % 40 = (e + 40 - 1 - i) % 40 := by omega
      rw [en]
      exact y9_m (e5 i (by omega)) f0 (by decide))
    have f1 : yfm [156] [24, 25] m m' := yfm_t (yfm_m f0 (by decide) (by decide)) (yfm_m a5 (by decide) (by decide))
    refine ⟨m', ?_, ⟨by rw [f1.2 17 (by decide)]; exact c1, y9_m c2 f1 (by decide), ⟨(e + 1) % 40, by omega, Nat.le_refl 40, a2, a3, a4⟩, yMHd_f c4 f1 (by decide) (by decide)⟩, yMk_f f1 (by decide) (by decide)⟩
    apply fX12_marks_144_i
    have w : (xwi m 144 24 (nI ((e + 1) % 40))).1 144 25 = nI 40 := by rw [xwi_i (by decide)]; exact e4
    have e39 : nI 40 - (1 : Int32) = nI 39 := nI_pred 39
    rw [e4, e3, if_pos e40.symm, nI_1, y40 (by omega), xlt_e, w, e39]
    exact a1
theorem s_mundo_37 {b : Nat} (hb : b + 9 ≤ 360) {N : yNW} : ∀ (d k : Nat) (m : xmm), k + d = 9 → y9 156 b N m → (∀ r, r < k → m.1 152 r = nI (yNc N r)) → ∃ m', bX12_undo_144_37 (nI b) (nI k) m = some (1, m') ∧ y9 152 0 N m' ∧ yfr [152] m m' := by
  intro d
  induction d with
  | zero =>
    intro k m hk h9 h1
    have e : k = 9 := by omega
    subst e
    refine ⟨m, ?_, fun r hr => by rw [Nat.zero_add]; exact h1 r hr, yfr_r⟩
    apply bX12_undo_144_37_i
    simp (disch := omega) only [yl3, yl4, yl5, yl6, yl7, yl8, yl9, yl10, yl13, yl16, yl20, yl21, yl22, yl23, yl24, yl32, yl40, yl48, yl57, yl59, yl63, yl64, yl97, yl99, yl122, yl255, yl256, yl400, yl1000, yl2000, yl2048, yc0_eq, yc0_eq2, yc0_le, yc0_ge, yc0_lt, yc0_gt, yc0_ad, yc0_da, yc0_sb, yc0_ml, yc0_lm, yc1_eq, yc1_eq2, yc1_le, yc1_ge, yc1_lt, yc1_gt, yc1_ad, yc1_da, yc1_sb, yc1_ml, yc1_lm, yc2_eq, yc2_eq2, yc2_le, yc2_ge, yc2_lt, yc2_gt, yc2_ad, yc2_da, yc2_sb, yc2_ml, yc2_lm, yc31_ge, ymodn, yI_1sl, yc2_dv, yn1_eq, yn1_lt, xgd_t, xlt_e, Option.bind_some, nI_add, pk_mul, pk_sub, pk_div, pk_rem, yI_and, yI_or, yI_xor, yI_nd, yI_nd2, yI_31, yI_shl, nI_leI, nI_ltI, nI_eq, nI_clamp, xinb_t, yP_z, yP_if, if_pos]
  | succ d ih =>
    intro k m hk h9 h1
    have fr : yfr [152] m (xwi m 152 k (nI (yNc N k))) := yfr_w yfr_r (by decide)
    obtain ⟨m', e1, e2, e3⟩ := ih (k + 1) _ (by omega) (y9_r h9 fr (by decide)) (fun r hr => by
      by_cases e : r = k
      · subst e; rw [xwi_e]
      · rw [xwi_i (by omega)]; exact h1 r (by omega))
    refine ⟨m', ?_, e2, yfr_t fr e3⟩
    have c := h9 k (by omega)
    have i360 : xinb 360 (nI (b + k)) = true := xinb_t (by omega) (by decide)
    apply bX12_undo_144_37_i
    simp (disch := omega) only [yl3, yl4, yl5, yl6, yl7, yl8, yl9, yl10, yl13, yl16, yl20, yl21, yl22, yl23, yl24, yl32, yl40, yl48, yl57, yl59, yl63, yl64, yl97, yl99, yl122, yl255, yl256, yl400, yl1000, yl2000, yl2048, yc0_eq, yc0_eq2, yc0_le, yc0_ge, yc0_lt, yc0_gt, yc0_ad, yc0_da, yc0_sb, yc0_ml, yc0_lm, yc1_eq, yc1_eq2, yc1_le, yc1_ge, yc1_lt, yc1_gt, yc1_ad, yc1_da, yc1_sb, yc1_ml, yc1_lm, yc2_eq, yc2_eq2, yc2_le, yc2_ge, yc2_lt, yc2_gt, yc2_ad, yc2_da, yc2_sb, yc2_ml, yc2_lm, yc31_ge, ymodn, yI_1sl, yc2_dv, yn1_eq, yn1_lt, xgd_t, xlt_e, Option.bind_some, nI_add, pk_mul, pk_sub, pk_div, pk_rem, yI_and, yI_or, yI_xor, yI_nd, yI_nd2, yI_31, yI_shl, nI_leI, nI_ltI, nI_eq, nI_clamp, xinb_t, yP_z, yP_if, if_neg, i360, c]
    exact e1
/-- UNDO, the model -/
theorem s_mUndo {n : Nat} {N : yNW} {h : Nat} {H : Nat → yNW} {hd : Nat → Prop} {K : Nat → yNW} {m : xmm} (hc : yMM n N h H hd K m) : ∃ m', fX12_undo_144 m = some (yP (h ≠ 0), m') ∧ (h = 0 → m' = m) ∧ (h ≠ 0 → yMM n (H 0) (h - 1) (fun i => H (i + 1)) hd K m') ∧ yMk m m' := by
  obtain ⟨c1, c2, ⟨e, e1, e2, e3, e4, e5⟩, c4⟩ := hc
  by_cases h0 : h = 0
  · subst h0
    refine ⟨m, ?_, fun _ => rfl, fun t => absurd rfl t, yMk_r m⟩
    rw [yP_f (fun t => t rfl)]
    apply fX12_undo_144_i
    rw [e4]
    exact if_pos rfl
  · have f0 : yfm [152] [25] m (xwi m 144 25 (nI (h - 1))) := yfm_f yfm_r (by decide)
    have en : (e + h - 1 - 0) % 40 = (e + (h - 1)) % 40 := by
      have : e + h - 1 - 0 = e + (h - 1) := by omega
      rw [this]
    have s0 := e5 0 (by omega)
    rw [en] at s0
    obtain ⟨m', a1, a2, a3⟩ := s_mundo_37 (b := 9 * ((e + (h - 1)) % 40)) (by omega) (N := H 0) 9 0 (xwi m 144 25 (nI (h - 1))) rfl (y9_m s0 f0 (by decide)) (fun r hr => absurd hr (Nat.not_lt_zero r))
    have f1 : yfm [152] [25] m m' := yfm_t f0 (yfm_of a3 (by decide))
    refine ⟨m', ?_, fun t => absurd t h0, fun _ => ⟨by rw [f1.2 17 (by decide)]; exact c1, a2, ⟨e, e1, by omega, by rw [f1.2 24 (by decide)]; exact e3, by rw [yfr_1 a3 144 25 (by decide), xwi_e], fun i hi => ?_⟩, yMHd_f c4 f1 (by decide) (by decide)⟩, yMk_f f1 (by decide) (by decide)⟩
    · rw [yP_t h0]
      have z : ¬ nI h = 0 := fun t => h0 ((yc0_eq (by omega)).mp t)
      have l9 : (9 : Int32) = nI 9 := rfl
      have w1 : (xwi m 144 25 (nI (h - 1))).1 144 24 = nI e := by rw [xwi_i (by decide)]; exact e3
      apply fX12_undo_144_i
      rw [e4, if_neg z, yc1_sb (by omega), xlt_e, w1, xwi_e, nI_add, y40 (by omega), l9, pk_mul, xlt_e]
      exact a1
    · have en2 : e + (h - 1) - 1 - i = e + h - 1 - (i + 1) := by omega
      rw [en2]
      exact y9_m (e5 (i + 1) (by omega)) f1 (by decide)
theorem s_in3 (x : Int32) (m : xmm) : fX12_in x (0 : Int32) (2 : Int32) m = some (yP (ySl x), m) := by
  have e2 : (2 : Int32) = nI 2 := rfl
  apply fX12_in_i
  rcases s_sl x with hx | ⟨i, hi, hx⟩ | ⟨p, p1, p2, hx⟩
  · rw [if_pos hx, yP_f]
    rintro ⟨i, i1, i2⟩
    rw [i2] at hx; exact nI_pos (by omega) hx
  · have lt : ¬ (2 : Int32) < x := by rw [hx, e2, nI_ltI (by omega) (by omega)]; omega
    rw [if_neg (by rw [hx]; exact nI_pos (by omega)), if_neg lt, yP_t ⟨i, hi, hx⟩]
  · have lt : (2 : Int32) < x := by rw [hx, e2, nI_ltI (by omega) (by omega)]; omega
    rw [if_neg (by rw [hx]; exact nI_pos p2), if_pos lt, yP_f]
    rintro ⟨i, i1, i2⟩
    rw [hx] at i2; have := (nI_eq p2 (by omega)).mp i2; omega
theorem s_mhold_13 {j : Nat} (hj : j < 3) {N : yNW} : ∀ (d k : Nat) (m : xmm), k + d = 9 → y9 152 0 N m → (∀ r, r < k → m.1 157 (9 * j + r) = nI (yNc N r)) → ∃ m', bX12_hold_144_13 (nI j) (nI k) m = some (1, xwi m' 158 j 1) ∧ y9 157 (9 * j) N m' ∧ (∀ i, (i < 9 * j ∨ 9 * j + 9 ≤ i) → m'.1 157 i = m.1 157 i) ∧ yfr [157] m m' := by
  intro d
  induction d with
  | zero =>
    intro k m hk h9 h1
    have e : k = 9 := by omega
    subst e
    refine ⟨m, ?_, h1, fun _ _ => rfl, yfr_r⟩
    apply bX12_hold_144_13_i
    simp (disch := omega) only [yl3, yl4, yl5, yl6, yl7, yl8, yl9, yl10, yl13, yl16, yl20, yl21, yl22, yl23, yl24, yl32, yl40, yl48, yl57, yl59, yl63, yl64, yl97, yl99, yl122, yl255, yl256, yl400, yl1000, yl2000, yl2048, yc0_eq, yc0_eq2, yc0_le, yc0_ge, yc0_lt, yc0_gt, yc0_ad, yc0_da, yc0_sb, yc0_ml, yc0_lm, yc1_eq, yc1_eq2, yc1_le, yc1_ge, yc1_lt, yc1_gt, yc1_ad, yc1_da, yc1_sb, yc1_ml, yc1_lm, yc2_eq, yc2_eq2, yc2_le, yc2_ge, yc2_lt, yc2_gt, yc2_ad, yc2_da, yc2_sb, yc2_ml, yc2_lm, yc31_ge, ymodn, yI_1sl, yc2_dv, yn1_eq, yn1_lt, xgd_t, xlt_e, Option.bind_some, nI_add, pk_mul, pk_sub, pk_div, pk_rem, yI_and, yI_or, yI_xor, yI_nd, yI_nd2, yI_31, yI_shl, nI_leI, nI_ltI, nI_eq, nI_clamp, xinb_t, yP_z, yP_if, if_pos]
  | succ d ih =>
    intro k m hk h9 h1
    have fr : yfr [157] m (xwi m 157 (9 * j + k) (nI (yNc N k))) := yfr_w yfr_r (by decide)
    obtain ⟨m', e1, e2, e3, e4⟩ := ih (k + 1) _ (by omega) (y9_r h9 fr (by decide)) (fun r hr => by
      by_cases e : r = k
      · subst e; rw [xwi_e]
      · rw [xwi_i (by omega)]; exact h1 r (by omega))
    refine ⟨m', ?_, e2, fun i hi => by rw [e3 i hi, xwi_i (by omega)], yfr_t fr e4⟩
    have c := h9 k (by omega)
    rw [Nat.zero_add] at c
    apply bX12_hold_144_13_i
    simp (disch := omega) only [yl3, yl4, yl5, yl6, yl7, yl8, yl9, yl10, yl13, yl16, yl20, yl21, yl22, yl23, yl24, yl32, yl40, yl48, yl57, yl59, yl63, yl64, yl97, yl99, yl122, yl255, yl256, yl400, yl1000, yl2000, yl2048, yc0_eq, yc0_eq2, yc0_le, yc0_ge, yc0_lt, yc0_gt, yc0_ad, yc0_da, yc0_sb, yc0_ml, yc0_lm, yc1_eq, yc1_eq2, yc1_le, yc1_ge, yc1_lt, yc1_gt, yc1_ad, yc1_da, yc1_sb, yc1_ml, yc1_lm, yc2_eq, yc2_eq2, yc2_le, yc2_ge, yc2_lt, yc2_gt, yc2_ad, yc2_da, yc2_sb, yc2_ml, yc2_lm, yc31_ge, ymodn, yI_1sl, yc2_dv, yn1_eq, yn1_lt, xgd_t, xlt_e, Option.bind_some, nI_add, pk_mul, pk_sub, pk_div, pk_rem, yI_and, yI_or, yI_xor, yI_nd, yI_nd2, yI_31, yI_shl, nI_leI, nI_ltI, nI_eq, nI_clamp, xinb_t, yP_z, yP_if, if_neg, c]
    exact e1
theorem s_mHold {n : Nat} {N : yNW} {h : Nat} {H : Nat → yNW} {hd : Nat → Prop} {K : Nat → yNW} {m : xmm} (hc : yMM n N h H hd K m) (x : Int32) : ∃ m', fX12_hold_144 x m = some (yP (ySl x), m') ∧ (∀ i, i < 3 → x = nI i → yMM n N h H (yhu hd i) (yku K i N) m') ∧ (¬ ySl x → m' = m) ∧ yMk m m' := by
  by_cases hx : ySl x
  · obtain ⟨j, hj, ex⟩ := hx
    obtain ⟨m1, a1, a2, a3, a4⟩ := s_mhold_13 hj (N := N) 9 0 m rfl hc.2.1 (fun r hr => absurd hr (Nat.not_lt_zero r))
    have f1 : yfr [157, 158] m (xwi m1 158 j 1) := yfr_w (yfr_m a4 (by decide)) (by decide)
    have f2 : yfm [157, 158] [] m (xwi m1 158 j 1) := yfm_of f1 (by decide)
    refine ⟨xwi m1 158 j 1, ?_, fun i hi e => ?_, fun t => absurd ⟨j, hj, ex⟩ t, yMk_of f1 (by decide)⟩
    · rw [yP_t ⟨j, hj, ex⟩]
      apply fX12_hold_144_i
      have n1 : ¬ (1 : Int32) = 0 := by decide
      rw [s_in3, yP_t ⟨j, hj, ex⟩, Option.bind_some, if_neg n1, ex]
      exact a1
    · have eij : i = j := by
        rw [ex] at e
        exact ((nI_eq (by omega) (by omega)).mp e).symm
      subst eij
      refine ⟨by rw [f2.2 17 (by decide)]; exact hc.1, y9_m hc.2.1 f2 (by decide), yMPs_f hc.2.2.1 f2 (by decide) (by decide) (by decide), fun k hk => ?_⟩
      have old := hc.2.2.2 k hk
      unfold yhu yku
      by_cases ek : k = i
      · subst ek
        refine ⟨by rw [xwi_e, yP_t (Or.inr rfl)], fun _ r hr => ?_⟩
        rw [if_pos rfl, xwi_k (by decide)]
        exact a2 r hr
      · refine ⟨?_, fun t r hr => ?_⟩
        · rw [xwi_i ek, yfr_1 a4 158 k (by decide), old.1]
          exact yP_c ⟨Or.inl, fun t => t.elim id fun t => absurd t ek⟩
        · have h3 : hd k := t.elim id fun t => absurd t ek
          rw [if_neg ek, xwi_k (by decide), a3 _ (by omega)]
          exact old.2 h3 r hr
  · refine ⟨m, ?_, fun i hi e => absurd ⟨i, hi, e⟩ hx, fun _ => rfl, yMk_r m⟩
    rw [yP_f hx]
    apply fX12_hold_144_i
    rw [s_in3, yP_f hx, Option.bind_some, if_pos rfl]
theorem s_mrest_22 {j : Nat} (hj : j < 3) {N : yNW} : ∀ (d k : Nat) (m : xmm), k + d = 9 → y9 157 (9 * j) N m → (∀ r, r < k → m.1 152 r = nI (yNc N r)) → ∃ m', bX12_restore_144_22 (nI j) (nI k) m = some (1, xwi m' 144 25 0) ∧ y9 152 0 N m' ∧ yfr [152] m m' := by
  intro d
  induction d with
  | zero =>
    intro k m hk h9 h1
    have e : k = 9 := by omega
    subst e
    refine ⟨m, ?_, fun r hr => by rw [Nat.zero_add]; exact h1 r hr, yfr_r⟩
    apply bX12_restore_144_22_i
    simp (disch := omega) only [yl3, yl4, yl5, yl6, yl7, yl8, yl9, yl10, yl13, yl16, yl20, yl21, yl22, yl23, yl24, yl32, yl40, yl48, yl57, yl59, yl63, yl64, yl97, yl99, yl122, yl255, yl256, yl400, yl1000, yl2000, yl2048, yc0_eq, yc0_eq2, yc0_le, yc0_ge, yc0_lt, yc0_gt, yc0_ad, yc0_da, yc0_sb, yc0_ml, yc0_lm, yc1_eq, yc1_eq2, yc1_le, yc1_ge, yc1_lt, yc1_gt, yc1_ad, yc1_da, yc1_sb, yc1_ml, yc1_lm, yc2_eq, yc2_eq2, yc2_le, yc2_ge, yc2_lt, yc2_gt, yc2_ad, yc2_da, yc2_sb, yc2_ml, yc2_lm, yc31_ge, ymodn, yI_1sl, yc2_dv, yn1_eq, yn1_lt, xgd_t, xlt_e, Option.bind_some, nI_add, pk_mul, pk_sub, pk_div, pk_rem, yI_and, yI_or, yI_xor, yI_nd, yI_nd2, yI_31, yI_shl, nI_leI, nI_ltI, nI_eq, nI_clamp, xinb_t, yP_z, yP_if, if_pos]
  | succ d ih =>
    intro k m hk h9 h1
    have fr : yfr [152] m (xwi m 152 k (nI (yNc N k))) := yfr_w yfr_r (by decide)
    obtain ⟨m', e1, e2, e3⟩ := ih (k + 1) _ (by omega) (y9_r h9 fr (by decide)) (fun r hr => by
      by_cases e : r = k
      · subst e; rw [xwi_e]
      · rw [xwi_i (by omega)]; exact h1 r (by omega))
    refine ⟨m', ?_, e2, yfr_t fr e3⟩
    have c := h9 k (by omega)
    apply bX12_restore_144_22_i
    simp (disch := omega) only [yl3, yl4, yl5, yl6, yl7, yl8, yl9, yl10, yl13, yl16, yl20, yl21, yl22, yl23, yl24, yl32, yl40, yl48, yl57, yl59, yl63, yl64, yl97, yl99, yl122, yl255, yl256, yl400, yl1000, yl2000, yl2048, yc0_eq, yc0_eq2, yc0_le, yc0_ge, yc0_lt, yc0_gt, yc0_ad, yc0_da, yc0_sb, yc0_ml, yc0_lm, yc1_eq, yc1_eq2, yc1_le, yc1_ge, yc1_lt, yc1_gt, yc1_ad, yc1_da, yc1_sb, yc1_ml, yc1_lm, yc2_eq, yc2_eq2, yc2_le, yc2_ge, yc2_lt, yc2_gt, yc2_ad, yc2_da, yc2_sb, yc2_ml, yc2_lm, yc31_ge, ymodn, yI_1sl, yc2_dv, yn1_eq, yn1_lt, xgd_t, xlt_e, Option.bind_some, nI_add, pk_mul, pk_sub, pk_div, pk_rem, yI_and, yI_or, yI_xor, yI_nd, yI_nd2, yI_31, yI_shl, nI_leI, nI_ltI, nI_eq, nI_clamp, xinb_t, yP_z, yP_if, if_neg, c]
    exact e1
theorem s_mRestore {n : Nat} {N : yNW} {h : Nat} {H : Nat → yNW} {hd : Nat → Prop} {K : Nat → yNW} {m : xmm} (hc : yMM n N h H hd K m) (x : Int32) : ∃ m', fX12_restore_144 x m = some (yP (yIsH hd x), m') ∧ (∀ i, i < 3 → x = nI i → hd i → yMM n (K i) 0 H hd K m') ∧ (¬ yIsH hd x → m' = m) ∧ yMk m m' := by
  have n1 : ¬ (1 : Int32) = 0 := by decide
  by_cases hx : yIsH hd x
  · obtain ⟨j, hj, ex, h2⟩ := hx
    obtain ⟨m1, a1, a2, a3⟩ := s_mrest_22 hj (N := K j) 9 0 m rfl ((hc.2.2.2 j hj).2 h2) (fun r hr => absurd hr (Nat.not_lt_zero r))
    have f2 : yfm [152] [25] m (xwi m1 144 25 0) := yfm_f (yfm_of a3 (by decide)) (by decide)
    refine ⟨xwi m1 144 25 0, ?_, fun i hi e _ => ?_, fun t => absurd ⟨j, hj, ex, h2⟩ t, yMk_f f2 (by decide) (by decide)⟩
    · rw [yP_t ⟨j, hj, ex, h2⟩]
      apply fX12_restore_144_i
      rw [s_in3, yP_t ⟨j, hj, ex⟩, Option.bind_some, if_neg n1, ex, xinb_t hj (by decide), nI_clamp (by omega), (hc.2.2.2 j hj).1, yP_t h2, xgd_t, if_neg n1]
      exact a1
    · have eij : i = j := by
        rw [ex] at e
        exact ((nI_eq (by omega) (by omega)).mp e).symm
      subst eij
      obtain ⟨e, e1, e2, e3, e4, e5⟩ := hc.2.2.1
      refine ⟨by rw [f2.2 17 (by decide)]; exact hc.1, fun r hr => by rw [xwi_k (by decide)]; exact a2 r hr, ⟨e, e1, by omega, by rw [f2.2 24 (by decide)]; exact e3, xwi_e _ _ _ _, fun k hk => absurd hk (Nat.not_lt_zero k)⟩, yMHd_f hc.2.2.2 f2 (by decide) (by decide)⟩
  · refine ⟨m, ?_, fun i hi e h2 => absurd ⟨i, hi, e, h2⟩ hx, fun _ => rfl, yMk_r m⟩
    rw [yP_f hx]
    apply fX12_restore_144_i
    rw [s_in3]
    by_cases hs : ySl x
    · obtain ⟨j, hj, ex⟩ := hs
      have h2 : ¬ hd j := fun t => hx ⟨j, hj, ex, t⟩
      rw [yP_t ⟨j, hj, ex⟩, Option.bind_some, if_neg n1, ex, xinb_t hj (by decide), nI_clamp (by omega), (hc.2.2.2 j hj).1, yP_f h2, xgd_t, if_pos rfl]
    · rw [yP_f hs, Option.bind_some, if_pos rfl]
