/-! arrows, what they force, classes; the triangle lemma; a class taken away -/
abbrev yA : Type := Nat × Nat
abbrev yG : Type := Nat → Nat → Prop
def yrv (x : yA) : yA := (x.2, x.1)
theorem yrv_rv (x : yA) : yrv (yrv x) = x := rfl
def ysy (g : yG) : Prop := (∀ a b, g a b → g b a) ∧ ∀ a, ¬ g a a
/-- x forces y among the lines g -/
def yfc (g : yG) (x y : yA) : Prop := g x.1 x.2 ∧ g y.1 y.2 ∧ ((x.1 = y.1 ∧ x.2 ≠ y.2 ∧ ¬ g x.2 y.2) ∨ (x.2 = y.2 ∧ x.1 ≠ y.1 ∧ ¬ g x.1 y.1))
def yrch (g : yG) : Nat → yA → yA → Prop
  | 0, x, y => x = y
  | n + 1, x, y => ∃ z, yrch g n x z ∧ yfc g z y
def ycl (g : yG) (x y : yA) : Prop := ∃ n, yrch g n x y
theorem ycl_r (g : yG) (x : yA) : ycl g x x := ⟨0, rfl⟩
theorem ycl_s {g : yG} {x y z : yA} (h : ycl g x y) (h2 : yfc g y z) : ycl g x z := by
  obtain ⟨n, h⟩ := h
  exact ⟨n + 1, y, h, h2⟩
theorem ycl_1 {g : yG} {x y : yA} (h : yfc g x y) : ycl g x y := ycl_s (ycl_r g x) h
theorem ycl_i {g : yG} {x y : yA} (h : ycl g x y) (P : yA → Prop) (h0 : P x) (hs : ∀ y z, ycl g x y → P y → yfc g y z → P z) : P y := by
  obtain ⟨n, h⟩ := h
  induction n generalizing y with
  | zero => cases h; exact h0
  | succ n ih =>
    obtain ⟨z, h1, h2⟩ := h
    exact hs z y ⟨n, h1⟩ (ih h1) h2
theorem ycl_t {g : yG} {x y z : yA} (h : ycl g x y) (h2 : ycl g y z) : ycl g x z := ycl_i h2 (fun w => ycl g x w) h fun _ _ _ h3 h4 => ycl_s h3 h4
theorem yfc_sy {g : yG} (hg : ysy g) {x y : yA} (h : yfc g x y) : yfc g y x := by
  obtain ⟨h1, h2, h3⟩ := h
  refine ⟨h2, h1, ?_⟩
  rcases h3 with ⟨a, b, c⟩ | ⟨a, b, c⟩
  · exact Or.inl ⟨a.symm, b.symm, fun e => c (hg.1 _ _ e)⟩
  · exact Or.inr ⟨a.symm, b.symm, fun e => c (hg.1 _ _ e)⟩
theorem yfc_rv {g : yG} (hg : ysy g) {x y : yA} (h : yfc g x y) : yfc g (yrv x) (yrv y) := by
  obtain ⟨h1, h2, h3⟩ := h
  exact ⟨hg.1 _ _ h1, hg.1 _ _ h2, h3.symm⟩
theorem ycl_sy {g : yG} (hg : ysy g) {x y : yA} (h : ycl g x y) : ycl g y x := ycl_i h (fun w => ycl g w x) (ycl_r g x) fun _ _ _ h3 h4 => ycl_t (ycl_1 (yfc_sy hg h4)) h3
theorem ycl_rv {g : yG} (hg : ysy g) {x y : yA} (h : ycl g x y) : ycl g (yrv x) (yrv y) := ycl_i h (fun w => ycl g (yrv x) (yrv w)) (ycl_r g _) fun _ _ _ h3 h4 => ycl_s h3 (yfc_rv hg h4)
theorem ycl_e {g : yG} {x y : yA} (h : ycl g x y) (hx : g x.1 x.2) : g y.1 y.2 := ycl_i h (fun w => g w.1 w.2) hx fun _ _ _ _ h4 => h4.2.1
def yodd (g : yG) (x : yA) : Prop := ycl g x (yrv x)
def yord (g : yG) : Prop := ∀ x : yA, g x.1 x.2 → ¬ yodd g x
/-- two of a class against each other -/
theorem yodd_of {g : yG} (hg : ysy g) {x y : yA} (h : ycl g x y) (h2 : ycl g x (yrv y)) : yodd g x := ycl_t h2 (ycl_sy hg (ycl_rv hg h))
theorem ytri {g : yG} (hg : ysy g) {a b c : Nat} (hab : g a b) (hac : g a c) (h1 : ¬ ycl g (b, c) (a, c)) (h2 : ¬ ycl g (b, c) (b, a)) {y : yA} (h : ycl g (b, c) y) : g a y.1 ∧ g a y.2 ∧ ycl g (a, b) (a, y.1) ∧ ycl g (a, c) (a, y.2) := by
  refine ycl_i h (fun y => g a y.1 ∧ g a y.2 ∧ ycl g (a, b) (a, y.1) ∧ ycl g (a, c) (a, y.2)) ⟨hab, hac, ycl_r g _, ycl_r g _⟩ ?_
  rintro ⟨z1, z2⟩ ⟨y1, y2⟩ hz ⟨i1, i2, i3, i4⟩ hf
  have hf' := hf
  obtain ⟨e1, e2, e3⟩ := hf
  dsimp only at *
  rcases e3 with ⟨r1, r2, r3⟩ | ⟨r1, r2, r3⟩
  · subst r1
    by_cases hy : g a y2
    · exact ⟨i1, hy, i3, ycl_s i4 ⟨i2, hy, Or.inl ⟨rfl, r2, r3⟩⟩⟩
    · refine absurd ?_ h2
      have f1 : yfc g (z1, y2) (z1, a) := ⟨e2, hg.1 _ _ i1, Or.inl ⟨rfl, fun e => r3 (by dsimp only at e; rw [e]; exact hg.1 _ _ i2), fun e => hy (hg.1 _ _ e)⟩⟩
      have f2 : ycl g (b, a) (z1, a) := ycl_rv hg i3
      exact ycl_t (ycl_s (ycl_s hz hf') f1) (ycl_sy hg f2)
  · subst r1
    by_cases hy : g a y1
    · exact ⟨hy, i2, ycl_s i3 ⟨i1, hy, Or.inl ⟨rfl, r2, r3⟩⟩, i4⟩
    · refine absurd ?_ h1
      have f1 : yfc g (y1, z2) (a, z2) := ⟨e2, i2, Or.inr ⟨rfl, fun e => r3 (by dsimp only at e; rw [e]; exact hg.1 _ _ i1), fun e => hy (hg.1 _ _ e)⟩⟩
      exact ycl_t (ycl_s (ycl_s hz hf') f1) (ycl_sy hg i4)
/-- a class that isn't odd goes on -/
theorem ycl_tr {g : yG} (hg : ysy g) {x : yA} (hx : g x.1 x.2) (ho : ¬ yodd g x) {a b c : Nat} (h : ycl g x (a, b)) (h2 : ycl g x (b, c)) : ycl g x (a, c) := by
  have hab : g a b := ycl_e h hx
  have hbc : g b c := ycl_e h2 hx
  have hne : a ≠ c := by
    intro e
    subst e
    exact ho (yodd_of hg h h2)
  have hac : g a c := Classical.byContradiction fun hn => ho (yodd_of hg h2 (ycl_s h ⟨hab, hg.1 _ _ hbc, Or.inr ⟨rfl, hne, hn⟩⟩))
  refine Classical.byContradiction fun hn => ?_
  have := ytri hg hab hac (fun e => hn (ycl_t h2 e)) (fun e => ho (yodd_of hg h (ycl_t h2 e))) (ycl_t (ycl_sy hg h2) h)
  exact hg.2 a this.1
/-- the lines that are left -/
def yle (g : yG) (x : yA) : yG := fun a b => g a b ∧ ¬ ycl g x (a, b) ∧ ¬ ycl g x (b, a)
theorem yle_sy {g : yG} (hg : ysy g) (x : yA) : ysy (yle g x) := ⟨fun a b h => ⟨hg.1 _ _ h.1, h.2.2, h.2.1⟩, fun a h => hg.2 a h.1⟩
/-- arrows of all lines: two one behind the other have the third -/
def yTO (g T : yG) : Prop := (∀ a b, T a b → g a b) ∧ (∀ a b, g a b → T a b ∨ T b a) ∧ (∀ a b, T a b → ¬ T b a) ∧ ∀ a b c, T a b → T b c → T a c
theorem yTO_u {g : yG} (hg : ysy g) {x : yA} (hx : g x.1 x.2) (ho : ¬ yodd g x) {T : yG} (hT : yTO (yle g x) T) : yTO g fun a b => ycl g x (a, b) ∨ T a b := by
  obtain ⟨t1, t2, t3, t4⟩ := hT
  refine ⟨?_, ?_, ?_, ?_⟩
  · rintro a b (h | h)
    · exact ycl_e h hx
    · exact (t1 _ _ h).1
  · intro a b h
    by_cases h1 : ycl g x (a, b)
    · exact Or.inl (Or.inl h1)
    · by_cases h2 : ycl g x (b, a)
      · exact Or.inr (Or.inl h2)
      · rcases t2 a b ⟨h, h1, h2⟩ with h3 | h3
        · exact Or.inl (Or.inr h3)
        · exact Or.inr (Or.inr h3)
  · rintro a b (h | h) (h2 | h2)
    · exact ho (yodd_of hg h h2)
    · exact (t1 _ _ h2).2.2 h
    · exact (t1 _ _ h).2.2 h2
    · exact t3 _ _ h h2
  · rintro a b c (h | h) (h2 | h2)
    · exact Or.inl (ycl_tr hg hx ho h h2)
    · obtain ⟨l1, l2, l3⟩ := t1 _ _ h2
      have hab : g a b := ycl_e h hx
      have hne : a ≠ c := by intro e; subst e; exact l3 h
      have hac : g a c := Classical.byContradiction fun hn => l3 (ycl_s h ⟨hab, hg.1 _ _ l1, Or.inr ⟨rfl, hne, hn⟩⟩)
      by_cases c1 : ycl g x (a, c)
      · exact Or.inl c1
      · by_cases c2 : ycl g x (c, a)
        · exact absurd (ycl_tr hg hx ho c2 h) l3
        · rcases t2 a c ⟨hac, c1, c2⟩ with h3 | h3
          · exact Or.inr h3
          · exact absurd h (t1 _ _ (t4 _ _ _ h2 h3)).2.2
    · obtain ⟨l1, l2, l3⟩ := t1 _ _ h
      have hbc : g b c := ycl_e h2 hx
      have hne : a ≠ c := by intro e; subst e; exact l3 h2
      have hac : g a c := Classical.byContradiction fun hn => l3 (ycl_s h2 ⟨hbc, hg.1 _ _ l1, Or.inl ⟨rfl, hne.symm, fun e => hn (hg.1 _ _ e)⟩⟩)
      by_cases c1 : ycl g x (a, c)
      · exact Or.inl c1
      · by_cases c2 : ycl g x (c, a)
        · exact absurd (ycl_tr hg hx ho h2 c2) l3
        · rcases t2 a c ⟨hac, c1, c2⟩ with h3 | h3
          · exact Or.inr h3
          · exact absurd h2 (t1 _ _ (t4 _ _ _ h3 h)).2.2
    · exact Or.inr (t4 _ _ _ h h2)
/-- no class becomes odd when a class goes -/
theorem yord_le {g : yG} (hg : ysy g) (ho : yord g) {x : yA} (hx : g x.1 x.2) : yord (yle g x) := by
  have hg' := yle_sy hg x
  obtain ⟨p, q⟩ := x
  have A1 : ∀ {u v w : Nat}, yle g (p, q) u v → yle g (p, q) u w → ycl g (p, q) (v, w) → yle g (p, q) u p ∧ yle g (p, q) u q ∧ ycl g (u, v) (u, p) ∧ ycl g (u, w) (u, q) := by
    intro u v w hv hw ha
    have t := ytri hg hv.1 hw.1 (fun e => hw.2.1 (ycl_t ha e)) (fun e => hv.2.2 (ycl_t ha e)) (ycl_sy hg ha)
    obtain ⟨t1, t2, t3, t4⟩ := t
    exact ⟨⟨t1, fun e => hv.2.1 (ycl_t e (ycl_sy hg t3)), fun e => hv.2.2 (ycl_t e (ycl_sy hg (ycl_rv hg t3)))⟩, ⟨t2, fun e => hw.2.1 (ycl_t e (ycl_sy hg t4)), fun e => hw.2.2 (ycl_t e (ycl_sy hg (ycl_rv hg t4)))⟩, t3, t4⟩
  have S1 : ∀ {z y : yA}, yfc (yle g (p, q)) z y → ¬ yfc g z y → (∃ u v w, z = (u, v) ∧ y = (u, w) ∧ yle g (p, q) u v ∧ yle g (p, q) u w ∧ (ycl g (p, q) (v, w) ∨ ycl g (p, q) (w, v))) ∨ (∃ u v w, z = (v, u) ∧ y = (w, u) ∧ yle g (p, q) u v ∧ yle g (p, q) u w ∧ (ycl g (p, q) (v, w) ∨ ycl g (p, q) (w, v))) := by
    rintro ⟨z1, z2⟩ ⟨y1, y2⟩ ⟨e1, e2, e3⟩ hn
    dsimp only at *
    have key : ∀ {v w : Nat}, ¬ yle g (p, q) v w → g v w → ycl g (p, q) (v, w) ∨ ycl g (p, q) (w, v) := by
      intro v w h1 h2
      by_cases h3 : ycl g (p, q) (v, w)
      · exact Or.inl h3
      · by_cases h4 : ycl g (p, q) (w, v)
        · exact Or.inr h4
        · exact absurd ⟨h2, h3, h4⟩ h1
    rcases e3 with ⟨r1, r2, r3⟩ | ⟨r1, r2, r3⟩
    · subst r1
      refine Or.inl ⟨z1, z2, y2, rfl, rfl, e1, e2, key r3 (Classical.byContradiction fun h => hn ⟨e1.1, e2.1, Or.inl ⟨rfl, r2, h⟩⟩)⟩
    · subst r1
      refine Or.inr ⟨z2, z1, y1, rfl, rfl, hg'.1 _ _ e1, hg'.1 _ _ e2, key r3 (Classical.byContradiction fun h => hn ⟨e1.1, e2.1, Or.inr ⟨rfl, r2, h⟩⟩)⟩
  intro e0 he0 hodd
  by_cases hc : ∃ a, yle g (p, q) a p ∧ yle g (p, q) a q ∧ ¬ ycl g (a, p) (a, q) ∧ (ycl g (a, p) e0 ∨ ycl g (a, q) e0 ∨ ycl g (a, p) (yrv e0) ∨ ycl g (a, q) (yrv e0))
  · obtain ⟨a, ap, aq, hne, hin⟩ := hc
    have F1 : ∀ {y : yA}, ycl g (a, q) y → g p y.1 ∧ g p y.2 ∧ ycl g (p, a) (p, y.1) ∧ ycl g (p, q) (p, y.2) := by
      intro y hy
      exact ytri hg (hg.1 _ _ ap.1) hx (fun e => aq.2.1 (ycl_sy hg e)) (fun e => hne (ycl_sy hg e)) hy
    have F2 : ∀ {y : yA}, ycl g (a, p) y → g q y.1 ∧ g q y.2 ∧ ycl g (q, a) (q, y.1) ∧ ycl g (q, p) (q, y.2) := by
      intro y hy
      exact ytri hg (hg.1 _ _ aq.1) (hg.1 _ _ hx) (fun e => ap.2.2 (ycl_sy hg (ycl_rv hg e))) hne hy
    have B1 : ∀ {y : yA}, ycl g (a, q) y → y.1 ≠ p ∧ y.2 ≠ p := fun hy => ⟨fun e => hg.2 p (by have := (F1 hy).1; rw [e] at this; exact this), fun e => hg.2 p (by have := (F1 hy).2.1; rw [e] at this; exact this)⟩
    have C1 : ∀ {y : yA}, ycl g (a, p) y → y.1 ≠ q ∧ y.2 ≠ q := fun hy => ⟨fun e => hg.2 q (by have := (F2 hy).1; rw [e] at this; exact this), fun e => hg.2 q (by have := (F2 hy).2.1; rw [e] at this; exact this)⟩
    have D1 : ∀ {z y : yA}, (ycl g (a, p) z ∨ ycl g (a, q) z) → yfc (yle g (p, q)) z y → (ycl g (a, p) y ∨ ycl g (a, q) y) := by
      intro z y hz hf
      by_cases hfg : yfc g z y
      · rcases hz with hz | hz
        · exact Or.inl (ycl_s hz hfg)
        · exact Or.inr (ycl_s hz hfg)
      · rcases S1 hf hfg with ⟨u, v, w, rfl, rfl, uv, uw, hA | hA⟩ | ⟨u, v, w, rfl, rfl, uv, uw, hA | hA⟩
        · obtain ⟨up, uq, k1, k2⟩ := A1 uv uw hA
          rcases hz with hz | hz
          · have := (F2 (ycl_t hz k1)).2.2.1
            exact Or.inr (ycl_t (ycl_rv hg this) (ycl_sy hg k2))
          · exact absurd rfl (B1 (ycl_t hz k1)).2
        · obtain ⟨up, uq, k1, k2⟩ := A1 uw uv hA
          rcases hz with hz | hz
          · exact absurd rfl (C1 (ycl_t hz k2)).2
          · have := (F1 (ycl_t hz k2)).2.2.1
            exact Or.inl (ycl_t (ycl_rv hg this) (ycl_sy hg k1))
        · obtain ⟨up, uq, k1, k2⟩ := A1 uv uw hA
          have k1 := ycl_rv hg k1
          rcases hz with hz | hz
          · have := (F2 (ycl_t hz k1)).2.2.2
            exact absurd (ycl_rv hg this) uq.2.1
          · exact absurd rfl (B1 (ycl_t hz k1)).1
        · obtain ⟨up, uq, k1, k2⟩ := A1 uw uv hA
          have k2 := ycl_rv hg k2
          rcases hz with hz | hz
          · exact absurd rfl (C1 (ycl_t hz k2)).1
          · have := (F1 (ycl_t hz k2)).2.2.2
            exact absurd this up.2.2
    have D2 : ∀ {z : yA}, (ycl g (a, p) z ∨ ycl g (a, q) z) → (ycl g (a, p) (yrv z) ∨ ycl g (a, q) (yrv z)) → False := by
      rintro z (h | h) (h2 | h2)
      · exact ho _ ap.1 (yodd_of hg h h2)
      · exact absurd rfl (B1 (ycl_t h2 (ycl_sy hg (ycl_rv hg h)))).1
      · exact absurd rfl (C1 (ycl_t h2 (ycl_sy hg (ycl_rv hg h)))).1
      · exact ho _ aq.1 (yodd_of hg h h2)
    have D3 : ∀ {z y : yA}, (ycl g (a, p) z ∨ ycl g (a, q) z) → ycl (yle g (p, q)) z y → (ycl g (a, p) y ∨ ycl g (a, q) y) := fun hz h => ycl_i h (fun y => ycl g (a, p) y ∨ ycl g (a, q) y) hz fun _ _ _ h3 h4 => D1 h3 h4
    have hcase : (ycl g (a, p) e0 ∨ ycl g (a, q) e0) ∨ (ycl g (a, p) (yrv e0) ∨ ycl g (a, q) (yrv e0)) := by
      rcases hin with h | h | h | h
      · exact Or.inl (Or.inl h)
      · exact Or.inl (Or.inr h)
      · exact Or.inr (Or.inl h)
      · exact Or.inr (Or.inr h)
    rcases hcase with h | h
    · exact D2 h (D3 h hodd)
    · exact D2 (D3 h (ycl_sy hg' hodd)) h
  · have N1 : ∀ {a : Nat}, yle g (p, q) a p → yle g (p, q) a q → (ycl g (a, p) e0 ∨ ycl g (a, q) e0 ∨ ycl g (a, p) (yrv e0) ∨ ycl g (a, q) (yrv e0)) → ycl g (a, p) (a, q) := fun h1 h2 h3 => Classical.byContradiction fun h4 => hc ⟨_, h1, h2, h4, h3⟩
    have D1 : ∀ {z y : yA}, ycl g e0 z → yfc (yle g (p, q)) z y → ycl g e0 y := by
      intro z y hz hf
      by_cases hfg : yfc g z y
      · exact ycl_s hz hfg
      · rcases S1 hf hfg with ⟨u, v, w, rfl, rfl, uv, uw, hA | hA⟩ | ⟨u, v, w, rfl, rfl, uv, uw, hA | hA⟩
        · obtain ⟨up, uq, k1, k2⟩ := A1 uv uw hA
          have := N1 up uq (Or.inl (ycl_sy hg (ycl_t hz k1)))
          exact ycl_t hz (ycl_t k1 (ycl_t this (ycl_sy hg k2)))
        · obtain ⟨up, uq, k1, k2⟩ := A1 uw uv hA
          have := N1 up uq (Or.inr (Or.inl (ycl_sy hg (ycl_t hz k2))))
          exact ycl_t hz (ycl_t k2 (ycl_t (ycl_sy hg this) (ycl_sy hg k1)))
        · obtain ⟨up, uq, k1, k2⟩ := A1 uv uw hA
          have := N1 up uq (Or.inr (Or.inr (Or.inl (ycl_sy hg (ycl_t (ycl_rv hg hz) k1)))))
          exact ycl_t hz (ycl_rv hg (ycl_t k1 (ycl_t this (ycl_sy hg k2))))
        · obtain ⟨up, uq, k1, k2⟩ := A1 uw uv hA
          have := N1 up uq (Or.inr (Or.inr (Or.inr (ycl_sy hg (ycl_t (ycl_rv hg hz) k2)))))
          exact ycl_t hz (ycl_rv hg (ycl_t k2 (ycl_t (ycl_sy hg this) (ycl_sy hg k1))))
    exact ho e0 he0.1 (ycl_i hodd (fun y => ycl g e0 y) (ycl_r g e0) fun _ _ _ h3 h4 => D1 h3 h4)
