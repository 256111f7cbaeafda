/-! OF, the question -/
def yOP (R : Nat → Nat) (x : Int32) : Prop := ∃ k i, i < 64 ∧ x = nI i ∧ yLI R i k
noncomputable def yON (R : Nat → Nat) (x : Int32) : Nat := @dite Nat (yOP R x) (Classical.propDecidable _) (fun h => Classical.choose h) (fun _ => 0)
theorem yON_s {R : Nat → Nat} {x : Int32} (h : yOP R x) : ∃ i, i < 64 ∧ x = nI i ∧ yLI R i (yON R x) := by
  have e : yON R x = Classical.choose h := by unfold yON; exact dif_pos h
  rw [e]
  exact Classical.choose_spec h
noncomputable def yaOf (n : Nat) (N : yNW) (x w : Int32) : Int32 := yif (yOP N.1 x) (yif (yInK 3 w) (if w = 0 then nI (yON N.1 x / 8) else if w = 1 then nI (yON N.1 x % 8) else yif (yord (yad N.1)) (if w = 2 then nI (yse N.1 N.2 (yON N.1 x)) else yP (yT N.1 N.2 (yON N.1 x / 8) (yON N.1 x % 8))) (-2)) (-1)) (-1)
theorem ydv8 {k : Nat} (h : k < 64) : nI k / (8 : Int32) = nI (k / 8) := by
  have l8 : (8 : Int32) = nI 8 := rfl
  rw [l8, pk_div (by omega) (by decide)]
  decide
theorem ymd8 {k : Nat} (h : k < 64) : nI k - nI k / (8 : Int32) * (8 : Int32) = nI (k % 8) := by
  have l8 : (8 : Int32) = nI 8 := rfl
  rw [ydv8 h, l8, pk_mul, pk_sub (by omega)]
  congr 1
  omega
theorem s_cOf {n : Nat} {N : yNW} {h : Nat} {H : Nat → yNW} {hd : Nat → Prop} {K : Nat → yNW} {m : xmm} (hc : yCI n N h H hd K m) (x w : Int32) : yCA n N h H hd K (yaOf n N x w) (fX11_of_0 x w m) m := by
  have hG := hc.1.1
  have hn := hG.1
  obtain ⟨l1, l2⟩ := s_lineAt_l ynet10 hG x hc.2.1.2.2
  unfold yaOf
  by_cases hx : yOP N.1 x
  · obtain ⟨i, i1, i2, i3⟩ := yON_s hx
    have k64 := i3.1
    have ka := i3.2.1.1
    have la := l1 (yON N.1 x) ⟨i, i1, i2, i3⟩
    have nm : ¬ nI (yON N.1 x) = (-1 : Int32) := fun t => by
      have := yI_zle (k := yON N.1 x) (by omega)
      rw [t] at this
      exact absurd this (by decide)
    rw [yif_t hx]
    rcases s_inKc (k := 3) (by omega) w with ⟨k1, k2⟩ | ⟨j, j1, j2, j3, j4, j5⟩ | ⟨k1, k2, k3, k4⟩
    · refine ⟨m, ?_, hc, yCk_r m⟩
      apply fX11_of_0_i
      rw [la, Option.bind_some, if_neg nm, if_pos k1, yif_f k2]
    · rw [yif_t ⟨j, j1, j2⟩]
      have j4' : w ≤ (3 : Int32) := j4
      by_cases e0 : w = 0
      · refine ⟨m, ?_, hc, yCk_r m⟩
        apply fX11_of_0_i
        rw [la, Option.bind_some, if_neg nm, if_neg j3, if_pos j4']
        simp only [if_pos e0]
        rw [ydv8 k64]
      by_cases e1 : w = 1
      · refine ⟨m, ?_, hc, yCk_r m⟩
        apply fX11_of_0_i
        rw [la, Option.bind_some, if_neg nm, if_neg j3, if_pos j4']
        simp only [if_neg e0, if_pos e1]
        rw [ymd8 k64]
      obtain ⟨m', a1, a2, a3, a4, a5⟩ := s_cArr hc
      refine ⟨m', ?_, a4, a5⟩
      apply fX11_of_0_i
      rw [la, Option.bind_some, if_neg nm, if_neg j3, if_pos j4']
      simp only [if_neg e0, if_neg e1]
      rw [a1, Option.bind_some, a2, Option.bind_some]
      by_cases ho : yord (yad N.1)
      · have ai := (a3.2.2.2.1 ho).1
        rw [yP_t ho, if_neg yn10, yif_t ho]
        by_cases e2 : w = 2
        · simp only [if_pos e2]
          have q : fX0_stepOf_109 (nI (yON N.1 x)) m' = some (nI (yse N.1 N.2 (yON N.1 x)), m') := by
            apply fX0_stepOf_109_i
            rw [xinb_t k64 (by decide), nI_clamp (by omega), ai.2.2.1 _ k64 ka (fun t => (yN_s (yGr_gd hG) N.2).1 ⟨_, t⟩)]
            rfl
          rw [q]; rfl
        · simp only [if_neg e2]
          have q := s_has109 (yT_po hG ho N.2) hn ai.2.1 (a := yON N.1 x / 8) (b := yON N.1 x % 8) (by omega) (by omega)
          rw [show 8 * (yON N.1 x / 8) + yON N.1 x % 8 = yON N.1 x by omega] at q
          rw [q, Option.bind_some, s_bit]; rfl
      · rw [yP_f ho, if_pos rfl, yif_f ho]
    · refine ⟨m, ?_, hc, yCk_r m⟩
      apply fX11_of_0_i
      rw [la, Option.bind_some, if_neg nm, if_neg k2, if_neg (show ¬ w ≤ (3 : Int32) from k3), yif_f k1]
  · refine ⟨m, ?_, hc, yCk_r m⟩
    apply fX11_of_0_i
    rw [l2 (fun ⟨i, k, t⟩ => hx ⟨k, i, t⟩), yif_f hx, Option.bind_some]
    exact if_pos rfl
theorem yOP_tot {R : Nat → Nat} (hG : yGd R) {x : Int32} : yOP R x ↔ ∃ i, i < yln R ∧ x = nI i := by
  rw [yli_tot hG]
  constructor
  · rintro ⟨k, i, i1, i2, k1, k2, k3⟩
    have := yli_lt k1 k2
    exact ⟨i, by omega, i2⟩
  · rintro ⟨i, i1, i2⟩
    have := yct_le (yLa R) 64
    have e : yli R 64 ≤ 64 := this
    obtain ⟨k, k1, k2⟩ := yLI_ex (Nat.le_refl 64) i1
    exact ⟨k, i, by omega, i2, k2⟩
