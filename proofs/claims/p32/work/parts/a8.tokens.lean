/-! the tokens of what was told -/
theorem yzr_u {P : Nat → Prop} {i e e' : Nat} (h : yzr P i e) (h' : yzr P i e') : e = e' := by
  rcases Nat.lt_trichotomy e e' with c | c | c
  · exact absurd (h'.2.1 e h.1 c) h.2.2
  · exact c
  · exact absurd (h.2.1 e' h'.1 c) h'.2.2
def wvd (c : Nat × Nat) : Prop := (3 ≤ c.1 ∧ c.1 ≤ 7) ∨ ((c.1 = 1 ∨ c.1 = 2) ∧ c.2 < 8)
def wadj : Nat → List (Nat × Nat) → Prop
  | _, [] => True
  | p, c :: cs => (p = 3 ∨ c.1 = 1 ∨ c.1 = 2 ∨ c.1 = 3) ∧ wvd c ∧ wadj c.1 cs
/-- the byte behind a token -/
theorem wnb {p : Nat} {cs : List (Nat × Nat)} (h : wadj p cs) (hp : p ≠ 3) : (wtt cs).getD 0 0 = 0 ∨ (wtt cs).getD 0 0 = 32 ∨ (wtt cs).getD 0 0 = 59 := by
  cases cs with
  | nil => exact Or.inl rfl
  | cons d ds =>
    obtain ⟨a, b⟩ := d
    have h1 : a = 1 ∨ a = 2 ∨ a = 3 := h.1.resolve_left hp
    rcases h1 with e | e | e
    · subst e; exact Or.inr (Or.inl rfl)
    · subst e; exact Or.inr (Or.inl rfl)
    · subst e; exact Or.inr (Or.inr rfl)
section
variable {B : Nat → Nat} {len : Nat}
/-- a word of letters without a blank ahead -/
theorem wtok_w (hB : yBk B len) {off L k : Nat} (hk : yzp B len k = off) (hL : 0 < L) (hlen : off + L ≤ len) (h1 : ∀ j, j < L → yLe (B (off + j))) (h2 : ¬ yLe (B (off + L))) : yzt B len k = off ∧ yzp B len (k + 1) = off + L ∧ yzm B len k = L := by
  have l0 := h1 0 hL
  rw [Nat.add_zero] at l0
  have a := (yzs_s hB (p := off) (by omega)).1
  have e1 : yzs B off = off := yzr_u a ⟨Nat.le_refl _, fun k h3 h4 => by omega, fun t => by have t : ywB (B off) := t; unfold ywB at t; unfold yLe at l0; omega⟩
  have et : yzt B len k = off := by unfold yzt; rw [hk, e1]
  have b := (yze_l hB (s := off) (by omega) l0).1
  have e2 : yze B len off = off + L := yzr_u b ⟨by omega, fun j h3 h4 => by have := h1 (j - off) (by omega); rw [show off + (j - off) = j by omega] at this; exact this, h2⟩
  have ep : yzp B len (k + 1) = off + L := by
    show yze B len (yzs B (yzp B len k)) = _
    rw [hk, e1, e2]
  refine ⟨et, ep, ?_⟩
  unfold yzm
  rw [ep, et]
  omega
/-- behind a blank -/
theorem wtok_b (hB : yBk B len) {off L k : Nat} (hk : yzp B len k = off) (hL : 0 < L) (hlen : off + 1 + L ≤ len) (h0 : B off = 32) (h1 : (∀ j, j < L → yLe (B (off + 1 + j))) ∧ ¬ yLe (B (off + 1 + L)) ∨ (∀ j, j < L → yDi (B (off + 1 + j))) ∧ ¬ yDi (B (off + 1 + L))) : yzt B len k = off + 1 ∧ yzp B len (k + 1) = off + 1 + L ∧ yzm B len k = L := by
  have nb : ¬ ywB (B (off + 1)) := fun t => by
    unfold ywB at t
    rcases h1 with h | h
    · have := h.1 0 hL; rw [Nat.add_zero] at this; unfold yLe at this; omega
    · have := h.1 0 hL; rw [Nat.add_zero] at this; unfold yDi at this; omega
  have a := (yzs_s hB (p := off) (by omega)).1
  have e1 : yzs B off = off + 1 := by
    refine yzr_u a ⟨by omega, fun k h3 h4 => ?_, nb⟩
    have e : k = off := by omega
    rw [e]
    show ywB (B off)
    rw [h0]
    exact Or.inr (Or.inr (Or.inr rfl))
  have et : yzt B len k = off + 1 := by unfold yzt; rw [hk, e1]
  have e2 : yze B len (off + 1) = off + 1 + L := by
    rcases h1 with h | h
    · have l0 := h.1 0 hL
      rw [Nat.add_zero] at l0
      exact yzr_u (yze_l hB (s := off + 1) (by omega) l0).1 ⟨by omega, fun j h3 h4 => by have := h.1 (j - (off + 1)) (by omega); rw [show off + 1 + (j - (off + 1)) = j by omega] at this; exact this, h.2⟩
    · have l0 := h.1 0 hL
      rw [Nat.add_zero] at l0
      exact yzr_u (yze_d hB (s := off + 1) (by omega) l0).1 ⟨by omega, fun j h3 h4 => by have := h.1 (j - (off + 1)) (by omega); rw [show off + 1 + (j - (off + 1)) = j by omega] at this; exact this, h.2⟩
  have ep : yzp B len (k + 1) = off + 1 + L := by
    show yze B len (yzs B (yzp B len k)) = _
    rw [hk, e1, e2]
  refine ⟨et, ep, ?_⟩
  unfold yzm
  rw [ep, et]
  omega
/-- a ; -/
theorem wtok_s (hB : yBk B len) {off k : Nat} (hk : yzp B len k = off) (hlen : off + 1 ≤ len) (h0 : B off = 59) : yzt B len k = off ∧ yzp B len (k + 1) = off + 1 := by
  have a := (yzs_s hB (p := off) (by omega)).1
  have e1 : yzs B off = off := yzr_u a ⟨Nat.le_refl _, fun k h3 h4 => by omega, fun t => by have t : ywB (B off) := t; unfold ywB at t; omega⟩
  have et : yzt B len k = off := by unfold yzt; rw [hk, e1]
  refine ⟨et, ?_⟩
  show yze B len (yzs B (yzp B len k)) = _
  rw [hk, e1, yze_o (by unfold yLe; omega) (by unfold yDi; omega), yif_t (by omega)]
theorem wkd_l {s n : Nat} (hs : s < len) (hl : yLe (B s)) (hn : yze B len s - s = n) (h8 : n ≤ 8) : yzk B len s = yzq B s n := by
  unfold yzk
  rw [yif_t hs, yif_t hl, hn, yif_t h8]
/-- what is said of the k-th token -/
def wtsk (B : Nat → Nat) (len k : Nat) (c : Nat × Nat) : Prop := yzd B len k = c.1 ∧ (c.1 = 1 → yznm B len k = 29281 + c.2) ∧ (c.1 = 2 → yzvl B len k = c.2)
theorem wtok {p : Nat} (hB : yBk B len) {c : Nat × Nat} {cs : List (Nat × Nat)} (ha : wadj p (c :: cs)) {off k : Nat} (hk : yzp B len k = off) (hb : ∀ j, B (off + j) = (wtt (c :: cs)).getD j 0) (hlen : len = off + (wtt (c :: cs)).length) : wtsk B len k c ∧ yzp B len (k + 1) = off + (wtx c).length := by
  obtain ⟨a, v⟩ := c
  obtain ⟨h1, h2, h3⟩ := ha
  have hln : (wtt ((a, v) :: cs)).length = (wtx (a, v)).length + (wtt cs).length := by
    show (wtx (a, v) ++ wtt cs).length = _
    rw [List.length_append]
  have hbt : ∀ j, j < (wtx (a, v)).length → B (off + j) = (wtx (a, v)).getD j 0 := fun j hj => by
    rw [hb j]
    exact wgD1 hj
  have hnx : B (off + (wtx (a, v)).length) = (wtt cs).getD 0 0 := by
    rw [hb _]
    exact wgD2 (i := 0)
  rcases h2 with ⟨h4, h5⟩ | ⟨h4, h5⟩
  · have h4 : 3 ≤ a := h4
    have h5 : a ≤ 7 := h5
    rcases (show a = 3 ∨ a = 4 ∨ a = 5 ∨ a = 6 ∨ a = 7 by omega) with e | e | e | e | e
    · subst e
      have b0 : B off = 59 := hbt 0 (by show 0 < 1; decide)
      have l1 : (wtx (3, v)).length = 1 := rfl
      obtain ⟨t1, t2⟩ := wtok_s hB hk (by omega) b0
      refine ⟨⟨?_, fun e => absurd e (by show ¬ (3 : Nat) = 1; decide), fun e => absurd e (by show ¬ (3 : Nat) = 2; decide)⟩, t2⟩
      show yzd B len k = 3
      unfold yzd yzk
      rw [t1, yif_t (by omega), yif_f (by rw [b0]; unfold yLe; omega), yif_f (by rw [b0]; unfold yDi; omega), yif_t b0]
    · subst e
      have l1 : (wtx (4, v)).length = 5 := rfl
      have b0 : B (off + 0) = 112 := hbt 0 (by show 0 < 5; decide)
      have b1 : B (off + 1) = 111 := hbt 1 (by show 1 < 5; decide)
      have b2 : B (off + 2) = 115 := hbt 2 (by show 2 < 5; decide)
      have b3 : B (off + 3) = 116 := hbt 3 (by show 3 < 5; decide)
      have b4 : B (off + 4) = 115 := hbt 4 (by show 4 < 5; decide)
      have nb := wnb h3 (by show (4 : Nat) ≠ 3; decide)
      rw [← hnx, l1] at nb
      have hl : ∀ j, j < 5 → yLe (B (off + j)) := fun j hj => by
        unfold yLe
        rcases (show j = 0 ∨ j = 1 ∨ j = 2 ∨ j = 3 ∨ j = 4 by omega) with e | e | e | e | e <;> subst e <;> omega
      obtain ⟨t1, t2, t3⟩ := wtok_w hB hk (L := 5) (by decide) (by omega) hl (by unfold yLe; omega)
      refine ⟨⟨?_, fun e => absurd e (by show ¬ (4 : Nat) = 1; decide), fun e => absurd e (by show ¬ (4 : Nat) = 2; decide)⟩, t2⟩
      show yzk B len (yzt B len k) = 4
      have e9 : yze B len off = off + 5 := by rw [← t2]; show _ = yze B len (yzt B len k); rw [t1]
      rw [t1, wkd_l (s := off) (n := 5) (by omega) (hl 0 (by decide)) (by omega) (by decide)]
      unfold yzq
      refine yif_t ⟨rfl, fun i hi => ?_⟩
      have hi : i < 5 := hi
      rcases (show i = 0 ∨ i = 1 ∨ i = 2 ∨ i = 3 ∨ i = 4 by omega) with e | e | e | e | e <;> subst e <;> assumption
    · subst e
      have l1 : (wtx (5, v)).length = 3 := rfl
      have b0 : B (off + 0) = 119 := hbt 0 (by show 0 < 3; decide)
      have b1 : B (off + 1) = 97 := hbt 1 (by show 1 < 3; decide)
      have b2 : B (off + 2) = 121 := hbt 2 (by show 2 < 3; decide)
      have nb := wnb h3 (by show (5 : Nat) ≠ 3; decide)
      rw [← hnx, l1] at nb
      have hl : ∀ j, j < 3 → yLe (B (off + j)) := fun j hj => by
        unfold yLe
        rcases (show j = 0 ∨ j = 1 ∨ j = 2 by omega) with e | e | e <;> subst e <;> omega
      obtain ⟨t1, t2, t3⟩ := wtok_w hB hk (L := 3) (by decide) (by omega) hl (by unfold yLe; omega)
      refine ⟨⟨?_, fun e => absurd e (by show ¬ (5 : Nat) = 1; decide), fun e => absurd e (by show ¬ (5 : Nat) = 2; decide)⟩, t2⟩
      show yzk B len (yzt B len k) = 5
      have e9 : yze B len off = off + 3 := by rw [← t2]; show _ = yze B len (yzt B len k); rw [t1]
      rw [t1, wkd_l (s := off) (n := 3) (by omega) (hl 0 (by decide)) (by omega) (by decide)]
      unfold yzq
      rw [yif_f (fun t => absurd t.1 (by decide))]
      refine yif_t ⟨rfl, fun i hi => ?_⟩
      have hi : i < 3 := hi
      rcases (show i = 0 ∨ i = 1 ∨ i = 2 by omega) with e | e | e <;> subst e <;> assumption
    · subst e
      have l1 : (wtx (6, v)).length = 4 := rfl
      have b0 : B (off + 0) = 104 := hbt 0 (by show 0 < 4; decide)
      have b1 : B (off + 1) = 101 := hbt 1 (by show 1 < 4; decide)
      have b2 : B (off + 2) = 97 := hbt 2 (by show 2 < 4; decide)
      have b3 : B (off + 3) = 112 := hbt 3 (by show 3 < 4; decide)
      have nb := wnb h3 (by show (6 : Nat) ≠ 3; decide)
      rw [← hnx, l1] at nb
      have hl : ∀ j, j < 4 → yLe (B (off + j)) := fun j hj => by
        unfold yLe
        rcases (show j = 0 ∨ j = 1 ∨ j = 2 ∨ j = 3 by omega) with e | e | e | e <;> subst e <;> omega
      obtain ⟨t1, t2, t3⟩ := wtok_w hB hk (L := 4) (by decide) (by omega) hl (by unfold yLe; omega)
      refine ⟨⟨?_, fun e => absurd e (by show ¬ (6 : Nat) = 1; decide), fun e => absurd e (by show ¬ (6 : Nat) = 2; decide)⟩, t2⟩
      show yzk B len (yzt B len k) = 6
      have e9 : yze B len off = off + 4 := by rw [← t2]; show _ = yze B len (yzt B len k); rw [t1]
      rw [t1, wkd_l (s := off) (n := 4) (by omega) (hl 0 (by decide)) (by omega) (by decide)]
      unfold yzq
      rw [yif_f (fun t => absurd t.1 (by decide)), yif_f (fun t => absurd t.1 (by decide))]
      refine yif_t ⟨rfl, fun i hi => ?_⟩
      have hi : i < 4 := hi
      rcases (show i = 0 ∨ i = 1 ∨ i = 2 ∨ i = 3 by omega) with e | e | e | e <;> subst e <;> assumption
    · subst e
      have l1 : (wtx (7, v)).length = 5 := rfl
      have b0 : B (off + 0) = 99 := hbt 0 (by show 0 < 5; decide)
      have b1 : B (off + 1) = 114 := hbt 1 (by show 1 < 5; decide)
      have b2 : B (off + 2) = 111 := hbt 2 (by show 2 < 5; decide)
      have b3 : B (off + 3) = 115 := hbt 3 (by show 3 < 5; decide)
      have b4 : B (off + 4) = 115 := hbt 4 (by show 4 < 5; decide)
      have nb := wnb h3 (by show (7 : Nat) ≠ 3; decide)
      rw [← hnx, l1] at nb
      have hl : ∀ j, j < 5 → yLe (B (off + j)) := fun j hj => by
        unfold yLe
        rcases (show j = 0 ∨ j = 1 ∨ j = 2 ∨ j = 3 ∨ j = 4 by omega) with e | e | e | e | e <;> subst e <;> omega
      obtain ⟨t1, t2, t3⟩ := wtok_w hB hk (L := 5) (by decide) (by omega) hl (by unfold yLe; omega)
      refine ⟨⟨?_, fun e => absurd e (by show ¬ (7 : Nat) = 1; decide), fun e => absurd e (by show ¬ (7 : Nat) = 2; decide)⟩, t2⟩
      show yzk B len (yzt B len k) = 7
      have e9 : yze B len off = off + 5 := by rw [← t2]; show _ = yze B len (yzt B len k); rw [t1]
      rw [t1, wkd_l (s := off) (n := 5) (by omega) (hl 0 (by decide)) (by omega) (by decide)]
      unfold yzq
      rw [yif_f (fun t => ?_), yif_f (fun t => absurd t.1 (by decide)), yif_f (fun t => absurd t.1 (by decide))]
      · refine yif_t ⟨rfl, fun i hi => ?_⟩
        have hi : i < 5 := hi
        rcases (show i = 0 ∨ i = 1 ∨ i = 2 ∨ i = 3 ∨ i = 4 by omega) with e | e | e | e | e <;> subst e <;> assumption
      · have := t.2 0 (by decide)
        have e0 : yzW 0 0 = 112 := rfl
        omega
  · have h5 : v < 8 := h5
    have h4 : a = 1 ∨ a = 2 := h4
    rcases h4 with e | e
    · subst e
      have l1 : (wtx (1, v)).length = 3 := rfl
      have b0 : B (off + 0) = 32 := hbt 0 (by show 0 < 3; decide)
      have b1 : B (off + 1) = 114 := hbt 1 (by show 1 < 3; decide)
      have b2 : B (off + 2) = 97 + v := hbt 2 (by show 2 < 3; decide)
      have nb := wnb h3 (by show (1 : Nat) ≠ 3; decide)
      rw [← hnx, l1] at nb
      have hl : ∀ j, j < 2 → yLe (B (off + 1 + j)) := fun j hj => by
        unfold yLe
        rcases (show j = 0 ∨ j = 1 by omega) with e | e <;> subst e
        · rw [Nat.add_zero]; omega
        · rw [show off + 1 + 1 = off + 2 by omega]; omega
      obtain ⟨t1, t2, t3⟩ := wtok_b hB hk (L := 2) (by decide) (by omega) b0 (Or.inl ⟨hl, by rw [show off + 1 + 2 = off + 3 by omega]; unfold yLe; omega⟩)
      refine ⟨⟨?_, fun _ => ?_, fun e => absurd e (by show ¬ (1 : Nat) = 2; decide)⟩, t2⟩
      · show yzk B len (yzt B len k) = 1
        have e9 : yze B len (off + 1) = off + 1 + 2 := by rw [← t2]; show _ = yze B len (yzt B len k); rw [t1]
        rw [t1, wkd_l (s := off + 1) (n := 2) (by omega) (hl 0 (by decide)) (by omega) (by decide)]
        unfold yzq
        rw [yif_f (fun t => absurd t.1 (by decide)), yif_f (fun t => absurd t.1 (by decide)), yif_f (fun t => absurd t.1 (by decide)), yif_f (fun t => absurd t.1 (by decide))]
      · show y256 B (yzt B len k) (yzm B len k) = 29281 + v
        rw [t1, t3]
        show 256 * (256 * 0 + B (off + 1 + 0)) + B (off + 1 + 1) = _
        rw [show off + 1 + 1 = off + 2 by omega, Nat.add_zero, b1, b2]
        omega
    · subst e
      have l1 : (wtx (2, v)).length = 2 := rfl
      have b0 : B (off + 0) = 32 := hbt 0 (by show 0 < 2; decide)
      have b1 : B (off + 1) = 48 + v := hbt 1 (by show 1 < 2; decide)
      have nb := wnb h3 (by show (2 : Nat) ≠ 3; decide)
      rw [← hnx, l1] at nb
      have hl : ∀ j, j < 1 → yDi (B (off + 1 + j)) := fun j hj => by
        unfold yDi
        have : j = 0 := by omega
        subst this
        rw [Nat.add_zero]; omega
      obtain ⟨t1, t2, t3⟩ := wtok_b hB hk (L := 1) (by decide) (by omega) b0 (Or.inr ⟨hl, by rw [show off + 1 + 1 = off + 2 by omega]; unfold yDi; omega⟩)
      refine ⟨⟨?_, fun e => absurd e (by show ¬ (2 : Nat) = 1; decide), fun _ => ?_⟩, t2⟩
      · show yzk B len (yzt B len k) = 2
        have e9 : yze B len (off + 1) = off + 1 + 1 := by rw [← t2]; show _ = yze B len (yzt B len k); rw [t1]
        have hd0 := hl 0 (by decide)
        rw [Nat.add_zero] at hd0
        unfold yzk
        rw [t1, yif_t (by omega), yif_f (fun t => yLe_nD t hd0), yif_t hd0, yif_t (by omega)]
      · show y10 B (yzt B len k) (yzm B len k) = v
        rw [t1, t3]
        show 10 * 0 + B (off + 1 + 0) - 48 = _
        rw [Nat.add_zero, b1]
        omega
theorem wtoks (hB : yBk B len) : ∀ (cs : List (Nat × Nat)) (p off k : Nat), wadj p cs → yzp B len k = off → (∀ j, B (off + j) = (wtt cs).getD j 0) → len = off + (wtt cs).length → (∀ i, i < cs.length → wtsk B len (k + i) (cs.getD i (9, 0))) ∧ yzp B len (k + cs.length) = len
  | [], p, off, k, _, hk, _, hlen => ⟨fun i hi => absurd hi (Nat.not_lt_zero i), hk.trans hlen.symm⟩
  | c :: cs, p, off, k, ha, hk, hb, hlen => by
    obtain ⟨t1, t2⟩ := wtok hB ha hk hb hlen
    have hl : (wtt (c :: cs)).length = (wtx c).length + (wtt cs).length := by
      show (wtx c ++ wtt cs).length = _
      rw [List.length_append]
    obtain ⟨i1, i2⟩ := wtoks hB cs c.1 (off + (wtx c).length) (k + 1) ha.2.2 t2 (fun j => by
      rw [Nat.add_assoc, hb]
      exact wgD2) (by omega)
    refine ⟨fun i hi => ?_, ?_⟩
    · cases i with
      | zero => exact t1
      | succ i =>
        have := i1 i (by have hi : i + 1 < cs.length + 1 := hi; omega)
        rw [show k + 1 + i = k + (i + 1) by omega] at this
        exact this
    · rw [show k + (c :: cs).length = k + 1 + cs.length by show k + (cs.length + 1) = _; omega]
      exact i2
theorem wend (hB : yBk B len) {k : Nat} (hk : yzp B len k = len) : yzd B len k = 9 := by
  have a := (yzs_s hB (p := len) (Nat.le_refl _)).1
  have e1 : yzs B len = len := yzr_u a ⟨Nat.le_refl _, fun k h3 h4 => by omega, fun t => by
    have t : ywB (B len) := t
    have := hB.2.2 len (Nat.le_refl _)
    unfold ywB at t
    omega⟩
  unfold yzd yzt yzk
  rw [hk, e1, yif_f (by omega)]
end
