/-! read: the class, whole -/
theorem yfo_b (kd : Nat → Nat) : ∀ f s p k, (yfo kd f s p k).1 ≤ 2
  | 0, s, p, k => Nat.le_refl 2
  | f + 1, s, p, k => by
    show (if kd k = 9 ∧ s = 2 then (0, k) else if yfl s (kd k) = 8 then (1, k) else if 8 < yzfp s p (kd k) then (2, k) else if 400 ≤ k then (2, k) else yfo kd f (yfl s (kd k)) (yzfp s p (kd k)) (k + 1)).1 ≤ 2
    split
    · exact Nat.zero_le 2
    · split
      · exact (by decide : (1 : Nat) ≤ 2)
      · split
        · exact Nat.le_refl 2
        · split
          · exact Nat.le_refl 2
          · exact yfo_b kd f _ _ _
theorem yz_nb {B : Nat → Nat} {len : Nat} (hB : yBk B len) : ∀ j, yzd B len j = 1 → yznm B len j < 2 ^ 63 := fun j h => by
  have n := yz_nm hB h
  exact y256_8 n.1 n.2
theorem yz_vb {B : Nat → Nat} {len : Nat} (hB : yBk B len) : ∀ j, yzd B len j = 2 → yzvl B len j < 10000 := fun j h => by
  have n := yz_vl hB h
  exact y10_4 n.1 n.2
theorem s_readText {B : Nat → Nat} {len : Nat} (hB : yBk B len) {m : xmm} (h : ySC B len m) : ∃ m', fX7_readText_1 m = some m' ∧ m'.1 1 1 = nI 0 ∧ ((yzF (yzd B len) (yznm B len) (yzvl B len)).1 = 0 → m'.1 1 2 = nI 0 ∧ m'.1 1 3 = -1 ∧ yNt 3 4 (yzP (yzd B len)) (yzR (yzd B len) (yznm B len) (yzvl B len), 0) m' ∧ yGr (yzP (yzd B len)) (yzR (yzd B len) (yznm B len) (yzvl B len))) ∧ ((yzF (yzd B len) (yznm B len) (yzvl B len)).1 ≠ 0 → m'.1 1 2 = nI (yzF (yzd B len) (yznm B len) (yzvl B len)).1 ∧ m'.1 1 3 = nI (yzt B len (yzF (yzd B len) (yznm B len) (yzvl B len)).2)) ∧ yfr [1, 3, 4, 5, 6, 7, 8, 9] m m' := by
  have f0 : yfk [] [2, 3] m (xwi (xwi m 1 2 0) 1 3 (-1)) := yfk_f (yfk_f yfk_r (by decide)) (by decide)
  obtain ⟨m1, a1, a2, a3, a4⟩ := s_checkForm hB (ySC_k h f0 (by decide) (by decide)) (show (xwi (xwi m 1 2 0) 1 3 (-1)).1 1 2 = nI 0 by rw [xwi_i (by decide), xwi_e]; rfl)
  obtain ⟨m2, b1, b2, b3⟩ := s_clear3 m1
  have g0 : yfr [1, 3, 4, 5, 6, 7, 8, 9] m (xwi (xwi m 1 2 0) 1 3 (-1)) := yfr_w (yfr_w yfr_r (by decide)) (by decide)
  have g2 : yfr [1, 3, 4, 5, 6, 7, 8, 9] m m2 := yfr_t g0 (yfr_t (yfr_m a4.1 (by decide)) (yfr_m b3 (by decide)))
  have st0 : ∀ {z : xmm}, bX7_readText_1_23 (0 : Int32) m2 = some z → fX7_readText_1 m = some z := fun {z} hz => by
    apply fX7_readText_1_i
    rw [xlt_e, xlt_e, a1, Option.bind_some, b1, Option.bind_some]
    exact hz
  by_cases r0 : (yfo (yzd B len) 401 0 0 0).1 = 0
  · obtain ⟨T, h2, h3⟩ := a2 r0
    obtain ⟨q, hS⟩ := yzS_of (kd := yzd B len) (fun k => yzk_b B len (yzt B len k)) r0
    have eq := yzq0_e hS
    have e13 : m1.1 1 3 = -1 := by rw [h3]; exact xwi_e _ _ _ _
    have C0 : yzC (yzd B len) (yznm B len) (yzvl B len) q 0 m2 := ⟨b2, fun p hp => by rw [if_pos (Nat.zero_le q)] at hp; exact absurd hp (Nat.not_lt_zero p), fun t => by omega, fun t => by omega, fun t => by omega⟩
    have T2 : yKT (yzd B len) (yzt B len) (yznm B len) (yzvl B len) (yfo (yzd B len) 401 0 0 0).2 m2 := yKT_k T (⟨yfr_m b3 (by decide), fun j _ => yfr_1 b3 1 j (by decide)⟩ : yfk [3, 4] [] m1 m2) (by decide) (by decide) (by decide) (by decide)
    obtain ⟨m3, c1, c2, c3⟩ := s_ctells (st := yzt B len) hS (yz_nb hB) (yz_vb hB) (yfo (yzd B len) 401 0 0 0).2 0 m2 (Nat.zero_add _) (fun j hj => absurd hj (Nat.not_lt_zero j)) T2 C0 (by rw [yfr_1 b3 1 2 (by decide)]; exact h2)
    have e3 : m2.1 1 3 = -1 := by rw [yfr_1 b3 1 3 (by decide)]; exact e13
    refine ⟨xwi m3 1 1 0, st0 c1, xwi_e _ _ _ _, fun t => ?_, fun t => ?_, yfr_w (yfr_t g2 (yfr_m c3.1 (by decide))) (by decide)⟩
    · rcases c2 with ⟨d1, d2, d3, d4⟩ | ⟨j, d1, d2, d3, d4, d5⟩
      · refine ⟨by rw [xwi_i (by decide)]; exact d3, by rw [xwi_i (by decide), d4]; exact e3, ?_, ?_⟩
        · have N := d2.1
          rw [if_neg (by have := hS.1.2.2.1; omega)] at N
          unfold yzR yzP
          rw [eq]
          exact yNt_r N (yfr_w (L := [1]) yfr_r (by decide)) (by decide) (by decide)
        · have G := yzR_gr hS d1 (yfo (yzd B len) 401 0 0 0).2 (Nat.le_refl _)
          unfold yzR yzP
          rw [eq]
          exact G
      · exfalso
        rw [← eq] at d2 d3
        have J := yzJ_f d1 d2 d3
        unfold yzF at t
        rw [yif_f (fun u => u r0), J, yif_t d1] at t
        exact d2 t
    · rcases c2 with ⟨d1, d2, d3, d4⟩ | ⟨j, d1, d2, d3, d4, d5⟩
      · exfalso
        rw [← eq] at d1
        have J := yzJ_0 d1
        unfold yzF at t
        rw [yif_f (fun u => u r0), yif_f J] at t
        exact t rfl
      · have d2' := d2
        have d3' := d3
        rw [← eq] at d2' d3'
        have J := yzJ_f d1 d2' d3'
        have F : yzF (yzd B len) (yznm B len) (yzvl B len) = (yzft (yzd B len) (yznm B len) (yzvl B len) (q - 1) j, j) := by
          unfold yzF
          rw [yif_f (fun u => u r0), J, yif_t d1, eq]
        rw [F, xwi_i (by decide), xwi_i (by decide)]
        exact ⟨d4, d5⟩
  · obtain ⟨h2, h3⟩ := a3 r0
    have F : yzF (yzd B len) (yznm B len) (yzvl B len) = yfo (yzd B len) 401 0 0 0 := yif_t r0
    have rb := yfo_b (yzd B len) 401 0 0 0
    have e2 : m2.1 1 2 = nI (yfo (yzd B len) 401 0 0 0).1 := by rw [yfr_1 b3 1 2 (by decide)]; exact h2
    have e3 : m2.1 1 3 = nI (yzt B len (yfo (yzd B len) 401 0 0 0).2) := by rw [yfr_1 b3 1 3 (by decide)]; exact h3
    rw [F]
    refine ⟨xwi m2 1 1 0, st0 ?_, xwi_e _ _ _ _, fun t => absurd t r0, fun _ => ⟨by rw [xwi_i (by decide)]; exact e2, by rw [xwi_i (by decide)]; exact e3⟩, yfr_w g2 (by decide)⟩
    apply bX7_readText_1_23_i
    by_cases g : m2.1 1 8 ≤ (0 : Int32)
    · rw [if_pos g]; rfl
    · rw [if_neg g, e2, if_neg (nI_ne0 (by omega) (by omega))]; rfl
/-! the tape as bytes -/
def yzB (bt : Nat → Int32) (len : Nat) (i : Nat) : Nat := if i < len then (bt i).toBitVec.toNat % 2 ^ 8 else 0
theorem yzB_k {bt : Nat → Int32} {len : Nat} (h : len ≤ 2000) : yBk (yzB bt len) len := ⟨h, fun i => by
  unfold yzB
  by_cases g : i < len
  · rw [if_pos g]; exact Nat.mod_lt _ (by decide)
  · rw [if_neg g]; decide, fun i hi => by unfold yzB; rw [if_neg (by omega)]⟩
theorem yzB_e {bt : Nat → Int32} {len i : Nat} (hi : i < len) : bt i &&& (255 : Int32) = nI (yzB bt len i) := by
  unfold yzB
  rw [if_pos hi]
  exact pk_and (bt i) 8 (by decide)
/-- what read answers, and the place -/
noncomputable def yaRd (bt : Nat → Int32) (len : Nat) : Nat := (yzF (yzd (yzB bt len) len) (yznm (yzB bt len) len) (yzvl (yzB bt len) len)).1
noncomputable def yaPl (bt : Nat → Int32) (len : Nat) : Int32 := if yaRd bt len = 0 then -1 else nI (yzt (yzB bt len) len (yzF (yzd (yzB bt len) len) (yznm (yzB bt len) len) (yzvl (yzB bt len) len)).2)
noncomputable def yaN (bt : Nat → Int32) (len : Nat) : Nat := yzP (yzd (yzB bt len) len)
noncomputable def yaR (bt : Nat → Int32) (len : Nat) : Nat → Nat := yzR (yzd (yzB bt len) len) (yznm (yzB bt len) len) (yzvl (yzB bt len) len)
theorem yaRd_b (bt : Nat → Int32) (len : Nat) : yaRd bt len < 100 := by
  unfold yaRd yzF
  have rb := yfo_b (yzd (yzB bt len) len) 401 0 0 0
  by_cases r0 : (yfo (yzd (yzB bt len) len) 401 0 0 0).1 ≠ 0
  · rw [yif_t r0]; omega
  · rw [yif_f r0]
    by_cases J : yzJ (yzd (yzB bt len) len) (yznm (yzB bt len) len) (yzvl (yzB bt len) len) < (yfo (yzd (yzB bt len) len) 401 0 0 0).2
    · rw [yif_t J]
      show yzft _ _ _ _ _ < 100
      unfold yzft
      generalize yzJ (yzd (yzB bt len) len) (yznm (yzB bt len) len) (yzvl (yzB bt len) len) = i
      split
      · split
        · by_cases c : ypa (yznm (yzB bt len) len) (i - 1) ((yznm (yzB bt len) len) i) < i - 1
          · rw [yif_t c]; decide
          · rw [yif_f c]; decide
        · by_cases c : ypa (yznm (yzB bt len) len) (yzq0 (yzd (yzB bt len) len) - 1) ((yznm (yzB bt len) len) i) < yzq0 (yzd (yzB bt len) len) - 1
          · rw [yif_t c]; decide
          · rw [yif_f c]; decide
      · split
        · by_cases c : yzq0 (yzd (yzB bt len) len) - 1 ≤ (yzvl (yzB bt len) len) i
          · rw [yif_t c]; decide
          · rw [yif_f c]
            by_cases c' : ∃ o, yhd (yzd (yzB bt len) len) i < o ∧ o < i ∧ (yzvl (yzB bt len) len) o = (yzvl (yzB bt len) len) i
            · rw [yif_t c']; decide
            · rw [yif_f c']; decide
        · split
          · split
            · by_cases c : i - yhd (yzd (yzB bt len) len) i - 1 < yzq0 (yzd (yzB bt len) len) - 1
              · rw [yif_t c]; decide
              · rw [yif_f c]; decide
            · decide
          · decide
    · rw [yif_f J]
      exact (by decide : (0 : Nat) < 100)
theorem s_cRead {n : Nat} {N : yNW} {h : Nat} {H : Nat → yNW} {hd : Nat → Prop} {K : Nat → yNW} {m : xmm} (hc : yCI n N h H hd K m) {len : Nat} {bt : Nat → Int32} (hT : yTC len bt m) : ∃ m', fX11_read_0 m = some (nI (yaRd bt len), m') ∧ (yaRd bt len = 0 → yCI (yaN bt len) (yaR bt len, 0) 0 H (fun _ => False) K m') ∧ (yaRd bt len ≠ 0 → yCI n N h H hd K m') ∧ yTC 0 bt m' ∧ m'.1 1 3 = yaPl bt len ∧ yLo m m' := by
  have hB := yzB_k (bt := bt) hT.2.1
  obtain ⟨m1, a1, a2, a3, a4, a5⟩ := s_readText hB (m := m) ⟨hT.1, fun i hi => by rw [hT.2.2 i hi]; exact yzB_e hi⟩
  obtain ⟨c1, c2, ⟨nx, p1, p2, p3, p4, p5⟩, ⟨d1, d2⟩, c5⟩ := hc
  have out : ∀ k, k = 0 ∨ 10 ≤ k → k ∉ [1, 3, 4, 5, 6, 7, 8, 9] := by
    intro k hk t
    have : ∀ k, k ∈ [1, 3, 4, 5, 6, 7, 8, 9] → 1 ≤ k ∧ k ≤ 9 := by decide
    have := this k t
    omega
  by_cases r0 : yaRd bt len = 0
  · obtain ⟨b1, b2, b3, b4⟩ := a3 r0
    obtain ⟨m2, e1, e2, e3⟩ := s_copyFrom (N := (yaR bt len, 0)) ynet10 ynet3 (by decide) (by decide) (by decide) (by decide) (show (0 : Nat) < 2 by decide) b3
    have f : yfr [0, 14] m2 (xwi (xwi (xwi m2 0 6 0) 14 2 0) 0 5 0) := yfr_w (yfr_w (yfr_w yfr_r (by decide)) (by decide)) (by decide)
    have o2 : ∀ k, k ≠ 0 → k ≠ 14 → k ∉ [0, 14] := by
      intro k h1 h2 t
      rcases List.mem_cons.mp t with e | e
      · exact h1 e
      · exact h2 (List.mem_singleton.mp e)
    refine ⟨xwi (xwi (xwi m2 0 6 0) 14 2 0) 0 5 0, ?_, fun _ => ⟨⟨b4, (show (0 : Nat) < 2 by decide)⟩, ?_, ⟨nx, ?_, ?_, p3, by decide, fun i hi => absurd hi (Nat.not_lt_zero i)⟩, ⟨?_, fun i _ hf => absurd hf id⟩, Or.inl ?_⟩, fun t => absurd r0 t, ⟨?_, by decide, fun i hi => absurd hi (Nat.not_lt_zero i)⟩, ?_, ?_⟩
    · apply fX11_read_0_i
      have z2 : m1.1 1 2 = (0 : Int32) := b1
      have fg : fX4_forget_14 (xwi m2 0 6 0) = some (xwi (xwi m2 0 6 0) 14 2 0) := by
        apply fX4_forget_14_i
        rfl
      rw [a1, Option.bind_some, if_pos z2, e1, Option.bind_some, xlt_e, fg, Option.bind_some, xlt_e, r0, xwi_k (by decide), xwi_k (by decide), xwi_k (by decide), yfr_1 e3 1 2 (by decide), b1]
    · exact yNt_r e2 f (by decide) (by decide)
    · rw [xwi_k (by decide), xwi_i (by decide), xwi_k (by decide), yfr_1 e3 14 1 (by decide), yfr_1 a5 14 1 (by decide)]; exact p1
    · rw [xwi_k (by decide), xwi_e]; rfl
    · rw [xwi_e, ybs_0 (fun a t => t)]; rfl
    · rw [xwi_i (by decide), xwi_k (by decide), xwi_e]; rfl
    · rw [xwi_k (by decide), xwi_k (by decide), xwi_k (by decide), yfr_1 e3 1 1 (by decide)]; exact a2
    · unfold yaPl
      rw [if_pos r0, xwi_k (by decide), xwi_k (by decide), xwi_k (by decide), yfr_1 e3 1 3 (by decide)]; exact b2
    · intro k hk
      have x1 := a5 k (out k (by omega))
      have x2 := e3 k (by intro t; rcases List.mem_cons.mp t with e | e; omega; have := List.mem_singleton.mp e; omega)
      have x3 := f k (o2 k (by omega) (by omega))
      exact ⟨fun i => (x3.1 i).trans ((x2.1 i).trans (x1.1 i)), fun i => (x3.2 i).trans ((x2.2 i).trans (x1.2 i))⟩
  · obtain ⟨b1, b2⟩ := a4 r0
    have rb := yaRd_b bt len
    have b1' : m1.1 1 2 = nI (yaRd bt len) := b1
    refine ⟨m1, ?_, fun t => absurd t r0, fun _ => ⟨c1, yNt_r c2 a5 (by decide) (by decide), ⟨nx, by rw [yfr_1 a5 14 1 (by decide)]; exact p1, by rw [yfr_1 a5 14 2 (by decide)]; exact p2, p3, p4, fun i hi => ⟨yNt_r (p5 i hi).1 a5 (out _ (by omega)) (out _ (by omega)), (p5 i hi).2⟩⟩, ⟨by rw [yfr_1 a5 0 5 (by decide)]; exact d1, fun i hi h2 => ⟨yNt_r (d2 i hi h2).1 a5 (out _ (by omega)) (out _ (by omega)), (d2 i hi h2).2⟩⟩, ?_⟩, ⟨a2, by decide, fun i hi => absurd hi (Nat.not_lt_zero i)⟩, ?_, fun k hk => a5 k (out k (by omega))⟩
    · apply fX11_read_0_i
      rw [a1, Option.bind_some, b1', if_neg (nI_ne0 (by omega) (by omega))]
    · rw [yfr_1 a5 0 6 (by decide)]
      exact c5.imp id fun t => ⟨t.1, yKc_r t.2 a5 (by decide)⟩
    · unfold yaPl
      rw [if_neg r0]; exact b2
