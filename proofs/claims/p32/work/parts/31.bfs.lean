/-! arrows as numbers; how far; a search by breadth -/
def yan (k : Nat) : yA := (k / 8, k % 8)
theorem yan_of {a b : Nat} (hb : b < 8) : yan (8 * a + b) = (a, b) := by
  unfold yan
  rw [show (8 * a + b) / 8 = a by omega, show (8 * a + b) % 8 = b by omega]
theorem yan_i {j k : Nat} (h : yan j = yan k) : j = k := by
  have h1 : j / 8 = k / 8 := congrArg Prod.fst h
  have h2 : j % 8 = k % 8 := congrArg Prod.snd h
  omega
theorem yan_rv {k : Nat} (h : k < 64) : yan (8 * (k % 8) + k / 8) = yrv (yan k) := yan_of (by omega)
/-- only posts below 8 have lines -/
def yg8 (g : yG) : Prop := ∀ a b, g a b → a < 8 ∧ b < 8
theorem yan_ex {g : yG} (h : yg8 g) {y : yA} (hy : g y.1 y.2) : ∃ k, k < 64 ∧ yan k = y := by
  have := h _ _ hy
  exact ⟨8 * y.1 + y.2, by omega, yan_of this.2⟩
noncomputable def ydt (g : yG) (x y : yA) : Nat := @dite Nat (∃ n, yrch g n x y) (Classical.propDecidable _) (fun h => Classical.choose (yleast h)) (fun _ => 0)
theorem ydt_s {g : yG} {x y : yA} (h : ycl g x y) : yrch g (ydt g x y) x y ∧ ∀ e, e < ydt g x y → ¬ yrch g e x y := by
  have h' : ∃ n, yrch g n x y := h
  have e : ydt g x y = Classical.choose (yleast h') := by unfold ydt; exact dif_pos h'
  rw [e]
  exact Classical.choose_spec (yleast h')
theorem ydt_le {g : yG} {x y : yA} {e : Nat} (h : yrch g e x y) : ydt g x y ≤ e := by
  have := (ydt_s ⟨e, h⟩).2 e
  rcases Nat.lt_or_ge e (ydt g x y) with h1 | h1
  · exact absurd h (this h1)
  · exact h1
theorem ydt_fc {g : yG} {x u z : yA} (h : ycl g x u) (hf : yfc g u z) : ydt g x z ≤ ydt g x u + 1 := ydt_le ⟨u, (ydt_s h).1, hf⟩
theorem ydt_self (g : yG) (x : yA) : ydt g x x = 0 := Nat.le_zero.mp (ydt_le (e := 0) rfl)
theorem ydt_p {g : yG} {x y : yA} (h : ycl g x y) {d : Nat} (hd : ydt g x y = d + 1) : ∃ w, ycl g x w ∧ ydt g x w = d ∧ yfc g w y := by
  have h1 := (ydt_s h).1
  rw [hd] at h1
  obtain ⟨w, w1, w2⟩ := h1
  refine ⟨w, ⟨d, w1⟩, ?_, w2⟩
  have a1 := ydt_le w1
  have a2 := ydt_fc ⟨d, w1⟩ w2
  omega
theorem ydt_z {g : yG} {x y : yA} (h : ycl g x y) (hd : ydt g x y = 0) : x = y := by
  have h1 := (ydt_s h).1
  rw [hd] at h1
  exact h1
theorem ypig : ∀ (m n : Nat) (f : Nat → Nat), (∀ i, i < n → f i < m) → (∀ i j, i < j → j < n → f i ≠ f j) → n ≤ m := by
  intro m
  induction m with
  | zero =>
    intro n f h _
    rcases Nat.eq_zero_or_pos n with e | e
    · omega
    · have := h 0 e; omega
  | succ m ih =>
    intro n f h hi
    by_cases hm : ∃ i, i < n ∧ f i = m
    · obtain ⟨i, i1, i2⟩ := hm
      have := ih (n - 1) (fun k => if k < i then f k else f (k + 1)) (by
        intro k hk
        by_cases e : k < i
        · rw [if_pos e]
          have a1 := h k (by omega)
          have a2 := hi k i e i1
          omega
        · rw [if_neg e]
          have a1 := h (k + 1) (by omega)
          have a2 := hi i (k + 1) (by omega) (by omega)
          omega) (by
        intro k j hkj hj
        by_cases e : k < i
        · rw [if_pos e]
          by_cases e2 : j < i
          · rw [if_pos e2]; exact hi k j hkj (by omega)
          · rw [if_neg e2]; exact hi k (j + 1) (by omega) (by omega)
        · rw [if_neg e, if_neg (by omega)]
          exact hi (k + 1) (j + 1) (by omega) (by omega))
      omega
    · have := ih n f (fun i hin => by
        have a1 := h i hin
        have a2 : f i ≠ m := fun e => hm ⟨i, hin, e⟩
        omega) hi
      omega
/-- the search's state: found F, in the row f, s of them; all ahead of place i are through, and H of that at i -/
def yBI (g : yG) (x i : Nat) (H F : Nat → Prop) (f : Nat → Nat) (s : Nat) : Prop :=
  F x ∧ (∀ j, j < s → f j < 64 ∧ F (f j) ∧ ydt g (yan x) (yan (f j)) ≤ j) ∧ (∀ z, F z → z < 64 ∧ ycl g (yan x) (yan z) ∧ ∃ j, j < s ∧ f j = z) ∧ (∀ j k, j < k → k < s → f j ≠ f k) ∧
  (∀ j k, j < k → k < s → ydt g (yan x) (yan (f j)) ≤ ydt g (yan x) (yan (f k))) ∧ (i < s → ∀ j, j < s → ydt g (yan x) (yan (f j)) ≤ ydt g (yan x) (yan (f i)) + 1) ∧
  (∀ j z, j < i → j < s → z < 64 → yfc g (yan (f j)) (yan z) → F z) ∧ (i < s → ∀ z, z < 64 → ycl g (yan x) (yan z) → ydt g (yan x) (yan z) ≤ ydt g (yan x) (yan (f i)) → F z) ∧
  (i < s → ∀ z, z < 64 → H z → yfc g (yan (f i)) (yan z) → F z)
def yup (f : Nat → Nat) (s z : Nat) : Nat → Nat := fun j => if j = s then z else f j
theorem yup_e (f : Nat → Nat) (s z : Nat) : yup f s z s = z := if_pos rfl
theorem yup_n {f : Nat → Nat} {s z j : Nat} (h : j ≠ s) : yup f s z j = f j := if_neg h
theorem yBI_0 (g : yG) {x : Nat} (hx : x < 64) : yBI g x 0 (fun _ => False) (fun z => z = x) (fun _ => x) 1 := by
  refine ⟨rfl, ?_, ?_, ?_, ?_, ?_, ?_, ?_, ?_⟩
  · intro j _
    refine ⟨hx, rfl, ?_⟩
    rw [ydt_self]
    exact Nat.zero_le _
  · rintro z rfl
    exact ⟨hx, ycl_r _ _, 0, by omega, rfl⟩
  · intro j k h1 h2; omega
  · intro j k h1 h2; omega
  · intro _ j _; exact Nat.le_succ _
  · intro j z h; omega
  · intro _ z _ hc hd
    rw [ydt_self] at hd
    exact (yan_i (ydt_z hc (by omega))).symm
  · intro _ z _ h; exact h.elim
theorem yBI_lt {g : yG} {x i : Nat} {H F : Nat → Prop} {f : Nat → Nat} {s : Nat} (h : yBI g x i H F f s) {z : Nat} (hz : z < 64) (hn : ¬ F z) : s < 64 := by
  obtain ⟨_, p1, p2, p3, _⟩ := h
  have := ypig 64 (s + 1) (yup f s z) (by
    intro j hj
    by_cases e : j = s
    · rw [e, yup_e]; exact hz
    · rw [yup_n e]; exact (p1 j (by omega)).1) (by
    intro j k h1 h2
    rw [yup_n (by omega : j ≠ s)]
    by_cases e : k = s
    · rw [e, yup_e]
      intro e2
      exact hn (by rw [← e2]; exact (p1 j (by omega)).2.1)
    · rw [yup_n e]
      exact p3 j k h1 (by omega))
  omega
theorem yBI_add {g : yG} {x i : Nat} {H F : Nat → Prop} {f : Nat → Nat} {s : Nat} (h : yBI g x i H F f s) (hi : i < s) {z : Nat} (hz : z < 64) (hn : ¬ F z) (hf : yfc g (yan (f i)) (yan z)) : ydt g (yan x) (yan z) = ydt g (yan x) (yan (f i)) + 1 ∧ yBI g x i H (fun y => F y ∨ y = z) (yup f s z) (s + 1) := by
  obtain ⟨p0, p1, p2, p3, p4, p5, p6, p7, p8⟩ := h
  have ci := (p2 _ (p1 i hi).2.1).2.1
  have cz := ycl_s ci hf
  have d1 := ydt_fc ci hf
  have d2 : ¬ ydt g (yan x) (yan z) ≤ ydt g (yan x) (yan (f i)) := fun e => hn (p7 hi z hz cz e)
  have d3 : ydt g (yan x) (yan z) = ydt g (yan x) (yan (f i)) + 1 := by omega
  refine ⟨d3, Or.inl p0, ?_, ?_, ?_, ?_, ?_, ?_, ?_, ?_⟩
  · intro j hj
    by_cases e : j = s
    · rw [e, yup_e]
      have := (p1 i hi).2.2
      exact ⟨hz, Or.inr rfl, by omega⟩
    · rw [yup_n e]
      have := p1 j (by omega)
      exact ⟨this.1, Or.inl this.2.1, this.2.2⟩
  · rintro y (hy | rfl)
    · obtain ⟨a, b, j, j1, j2⟩ := p2 y hy
      exact ⟨a, b, j, by omega, by rw [yup_n (by omega)]; exact j2⟩
    · exact ⟨hz, cz, s, by omega, yup_e _ _ _⟩
  · intro j k h1 h2
    rw [yup_n (by omega : j ≠ s)]
    by_cases e : k = s
    · rw [e, yup_e]
      intro e2
      exact hn (by rw [← e2]; exact (p1 j (by omega)).2.1)
    · rw [yup_n e]
      exact p3 j k h1 (by omega)
  · intro j k h1 h2
    rw [yup_n (by omega : j ≠ s)]
    by_cases e : k = s
    · rw [e, yup_e, d3]
      exact p5 hi j (by omega)
    · rw [yup_n e]
      exact p4 j k h1 (by omega)
  · intro _ j hj
    rw [yup_n (by omega : i ≠ s)]
    by_cases e : j = s
    · rw [e, yup_e, d3]
      exact Nat.le_refl _
    · rw [yup_n e]
      exact p5 hi j (by omega)
  · intro j y h1 h2 h3 h4
    rw [yup_n (by omega : j ≠ s)] at h4
    exact Or.inl (p6 j y h1 (by omega) h3 h4)
  · intro _ y h1 h2 h3
    rw [yup_n (by omega : i ≠ s)] at h3
    exact Or.inl (p7 hi y h1 h2 h3)
  · intro _ y h1 h2 h3
    rw [yup_n (by omega : i ≠ s)] at h3
    exact Or.inl (p8 hi y h1 h2 h3)
theorem yBI_h {g : yG} {x i : Nat} {H H' F : Nat → Prop} {f : Nat → Nat} {s : Nat} (h : yBI g x i H F f s) (hh : ∀ z, z < 64 → H' z → yfc g (yan (f i)) (yan z) → H z ∨ F z) : yBI g x i H' F f s := by
  obtain ⟨p0, p1, p2, p3, p4, p5, p6, p7, p8⟩ := h
  refine ⟨p0, p1, p2, p3, p4, p5, p6, p7, ?_⟩
  intro hi z h1 h2 h3
  rcases hh z h1 h2 h3 with e | e
  · exact p8 hi z h1 e h3
  · exact e
theorem yBI_n {g : yG} (h8 : yg8 g) {x i : Nat} {H F : Nat → Prop} {f : Nat → Nat} {s : Nat} (h : yBI g x i H F f s) (hi : i < s) (hx : g (yan x).1 (yan x).2) (hh : ∀ z, z < 64 → yfc g (yan (f i)) (yan z) → H z) : yBI g x (i + 1) (fun _ => False) F f s := by
  obtain ⟨p0, p1, p2, p3, p4, p5, p6, p7, p8⟩ := h
  have p6' : ∀ j z, j < i + 1 → j < s → z < 64 → yfc g (yan (f j)) (yan z) → F z := by
    intro j z h1 h2 h3 h4
    by_cases e : j = i
    · subst e; exact p8 h2 z h3 (hh z h3 h4) h4
    · exact p6 j z (by omega) h2 h3 h4
  refine ⟨p0, p1, p2, p3, p4, ?_, p6', ?_, fun _ z _ h => h.elim⟩
  · intro h1 j hj
    have a1 := p5 hi j hj
    have a2 := p4 i (i + 1) (by omega) h1
    omega
  · intro h1 z hz hc hd
    have a1 := p5 hi (i + 1) h1
    by_cases e : ydt g (yan x) (yan z) ≤ ydt g (yan x) (yan (f i))
    · exact p7 hi z hz hc e
    · have e2 : ydt g (yan x) (yan z) = ydt g (yan x) (yan (f i)) + 1 := by omega
      obtain ⟨w, w1, w2, w3⟩ := ydt_p hc e2
      obtain ⟨k, k1, k2⟩ := yan_ex h8 (ycl_e w1 hx)
      subst k2
      have fk := p7 hi k k1 w1 (by omega)
      obtain ⟨j, j1, j2⟩ := (p2 k fk).2.2
      have hji : j ≤ i := by
        rcases Nat.lt_or_ge i j with h2 | h2
        · have h3 : ydt g (yan x) (yan (f (i + 1))) ≤ ydt g (yan x) (yan (f j)) := by
            by_cases e3 : j = i + 1
            · rw [e3]; exact Nat.le_refl _
            · exact p4 (i + 1) j (by omega) j1
          rw [j2] at h3
          omega
        · exact h2
      exact p6' j z (by omega) j1 hz (by rw [j2]; exact w3)
theorem yBI_e {g : yG} (h8 : yg8 g) {x i : Nat} {H F : Nat → Prop} {f : Nat → Nat} {s : Nat} (h : yBI g x i H F f s) (hi : s ≤ i) (hx : g (yan x).1 (yan x).2) {z : Nat} (hz : z < 64) : F z ↔ ycl g (yan x) (yan z) := by
  obtain ⟨p0, p1, p2, p3, p4, p5, p6, p7, p8⟩ := h
  constructor
  · intro h1
    exact (p2 z h1).2.1
  · intro h1
    have := ycl_i h1 (fun y => ∃ k, k < 64 ∧ yan k = y ∧ F k) ⟨x, (p2 x p0).1, rfl, p0⟩ (by
      rintro y w hy ⟨k, k1, rfl, k3⟩ hf
      obtain ⟨k', k1', k2'⟩ := yan_ex h8 hf.2.1
      subst k2'
      obtain ⟨j, j1, j2⟩ := (p2 k k3).2.2
      exact ⟨k', k1', rfl, p6 j k' (by omega) j1 k1' (by rw [j2]; exact hf)⟩)
    obtain ⟨k, k1, k2, k3⟩ := this
    rw [← yan_i k2]
    exact k3
/-- the search's state in cells -/
def yBM (cs cf co ci : Nat) (g : yG) (x : Nat) (F : Nat → Prop) (f : Nat → Nat) (s : Nat) (m : xmm) : Prop :=
  (∀ z, z < 64 → m.1 cs z = yif (F z) (nI (ydt g (yan x) (yan z))) (-1)) ∧ (∀ j, j < s → m.1 cf j = nI (f j)) ∧ m.1 co ci = nI s
/-- what the search comes to -/
def ySp (cs cf co ci : Nat) (g : yG) (x : Nat) (m : xmm) : Prop :=
  ∃ (f : Nat → Nat) (s : Nat), s ≤ 64 ∧ m.1 co ci = nI s ∧ (∀ j, j < s → m.1 cf j = nI (f j) ∧ f j < 64 ∧ ycl g (yan x) (yan (f j))) ∧ (∀ j k, j < k → k < s → f j ≠ f k) ∧ (∀ z, z < 64 → ycl g (yan x) (yan z) → ∃ j, j < s ∧ f j = z) ∧ (∀ z, z < 64 → m.1 cs z = yif (ycl g (yan x) (yan z)) (nI (ydt g (yan x) (yan z))) (-1)) ∧ ∀ z, z < 64 → ycl g (yan x) (yan z) → ydt g (yan x) (yan z) < 64
theorem ySp_of {cs cf co ci : Nat} {g : yG} (h8 : yg8 g) {x i : Nat} {H F : Nat → Prop} {f : Nat → Nat} {s : Nat} {m : xmm} (h : yBI g x i H F f s) (hi : s ≤ i) (hx : g (yan x).1 (yan x).2) (hm : yBM cs cf co ci g x F f s m) : ySp cs cf co ci g x m := by
  have fin := fun z hz => yBI_e h8 h hi hx (z := z) hz
  obtain ⟨p0, p1, p2, p3, p4, p5, p6, p7, p8⟩ := h
  have s64 : s ≤ 64 := ypig 64 s f (fun j hj => (p1 j hj).1) p3
  refine ⟨f, s, s64, hm.2.2, fun j hj => ⟨hm.2.1 j hj, (p1 j hj).1, (p2 _ (p1 j hj).2.1).2.1⟩, p3, fun z hz hc => (p2 z ((fin z hz).mpr hc)).2.2, fun z hz => ?_, fun z hz hc => ?_⟩
  · rw [hm.1 z hz, yif_c (fin z hz)]
  · obtain ⟨j, j1, j2⟩ := (p2 z ((fin z hz).mpr hc)).2.2
    have := (p1 j j1).2.2
    rw [j2] at this
    omega
