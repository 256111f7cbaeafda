/-! sets that all others see alike; parts; arrows of a network, and of a set and of the rest with one of it -/
def yin (g : yG) (S : Nat) : yG := fun a b => g a b ∧ yb S a ∧ yb S b
theorem yin_sy {g : yG} (hg : ysy g) (S : Nat) : ysy (yin g S) := ⟨fun a b h => ⟨hg.1 _ _ h.1, h.2.2, h.2.1⟩, fun a h => hg.2 a h.1⟩
theorem yfc_in {g : yG} {S S' : Nat} (hs : ysb S' S) {x y : yA} (h : yfc (yin g S') x y) : yfc (yin g S) x y := by
  obtain ⟨h1, h2, h3⟩ := h
  refine ⟨⟨h1.1, hs _ h1.2.1, hs _ h1.2.2⟩, ⟨h2.1, hs _ h2.2.1, hs _ h2.2.2⟩, ?_⟩
  rcases h3 with ⟨a, b, c⟩ | ⟨a, b, c⟩
  · exact Or.inl ⟨a, b, fun e => c ⟨e.1, h1.2.2, h2.2.2⟩⟩
  · exact Or.inr ⟨a, b, fun e => c ⟨e.1, h1.2.1, h2.2.1⟩⟩
theorem ycl_in {g : yG} {S S' : Nat} (hs : ysb S' S) {x y : yA} (h : ycl (yin g S') x y) : ycl (yin g S) x y := ycl_i h (fun y => ycl (yin g S) x y) (ycl_r _ x) fun _ _ _ h3 h4 => ycl_s h3 (yfc_in hs h4)
theorem yord_in {g : yG} {S S' : Nat} (hs : ysb S' S) (h : yord (yin g S)) : yord (yin g S') := fun x hx ho => h x ⟨hx.1, hs _ hx.2.1, hs _ hx.2.2⟩ (ycl_in hs ho)
def ymo (g : yG) (S M : Nat) : Prop := ysb M S ∧ (∃ a, yb M a) ∧ ∀ x, yb S x → ¬ yb M x → ∀ a b, yb M a → yb M b → (g x a ↔ g x b)
def yst (g : yG) (S M : Nat) : Prop := ymo g S M ∧ ∀ M', ymo g S M' → (∃ a, yb M a ∧ yb M' a) → ysb M M' ∨ ysb M' M
def yco (g : yG) : yG := fun a b => a ≠ b ∧ ¬ g a b
theorem yco_sy {g : yG} (hg : ysy g) : ysy (yco g) := ⟨fun _ _ h => ⟨h.1.symm, fun e => h.2 (hg.1 _ _ e)⟩, fun _ h => h.1 rfl⟩
theorem yco_mo {g : yG} {S M : Nat} : ymo (yco g) S M ↔ ymo g S M := by
  unfold ymo yco
  constructor
  · rintro ⟨h1, h2, h3⟩
    refine ⟨h1, h2, fun x hx hm a b ha hb => ?_⟩
    have := h3 x hx hm a b ha hb
    have na : x ≠ a := fun e => hm (by rw [e]; exact ha)
    have nb : x ≠ b := fun e => hm (by rw [e]; exact hb)
    constructor
    · intro e
      exact Classical.byContradiction fun hn => (this.mpr ⟨nb, hn⟩).2 e
    · intro e
      exact Classical.byContradiction fun hn => (this.mp ⟨na, hn⟩).2 e
  · rintro ⟨h1, h2, h3⟩
    refine ⟨h1, h2, fun x hx hm a b ha hb => ?_⟩
    have := h3 x hx hm a b ha hb
    have na : x ≠ a := fun e => hm (by rw [e]; exact ha)
    have nb : x ≠ b := fun e => hm (by rw [e]; exact hb)
    exact ⟨fun e => ⟨nb, fun e2 => e.2 (this.mpr e2)⟩, fun e => ⟨na, fun e2 => e.2 (this.mp e2)⟩⟩
theorem yco_st {g : yG} {S M : Nat} : yst (yco g) S M ↔ yst g S M := by
  unfold yst
  rw [yco_mo]
  exact ⟨fun h => ⟨h.1, fun M' h2 => h.2 M' (yco_mo.mpr h2)⟩, fun h => ⟨h.1, fun M' h2 => h.2 M' (yco_mo.mp h2)⟩⟩
/-- b is come to from a within S -/
def ycn (g : yG) (S a b : Nat) : Prop := ∀ X : Nat → Prop, X a → (∀ u v, X u → g u v → yb S v → X v) → X b
theorem ycn_r (g : yG) (S a : Nat) : ycn g S a a := fun _ h _ => h
theorem ycn_s {g : yG} {S a b c : Nat} (h : ycn g S a b) (h2 : g b c) (hc : yb S c) : ycn g S a c := fun X h3 h4 => h4 b c (h X h3 h4) h2 hc
theorem ycn_t {g : yG} {S a b c : Nat} (h : ycn g S a b) (h2 : ycn g S b c) : ycn g S a c := fun X h3 h4 => h2 X (h X h3 h4) h4
theorem ycn_m {g : yG} {S a b : Nat} (h : ycn g S a b) (ha : yb S a) : yb S b := h (fun u => yb S u) ha fun _ _ _ _ h => h
theorem ycn_sy {g : yG} (hg : ysy g) {S a b : Nat} (ha : yb S a) (h : ycn g S a b) : ycn g S b a := by
  have := h (fun u => yb S u ∧ ycn g S u a) ⟨ha, ycn_r g S a⟩ fun u v hu hv hs => ⟨hs, fun X h3 h4 => hu.2 X (h4 v u h3 (hg.1 _ _ hv) hu.1) h4⟩
  exact this.2
/-- in how many parts -/
noncomputable def ypt (g : yG) (S : Nat) : Nat := yct (fun a => yb S a ∧ ∀ b, b < a → yb S b → ¬ ycn g S b a) 8
theorem ypt_le1 {g : yG} (hg : ysy g) {S : Nat} (hS : S < 2 ^ 8) (h : ypt g S ≤ 1) {a b : Nat} (ha : yb S a) (hb : yb S b) : ycn g S a b := by
  have rep : ∀ a, yb S a → ∃ r, r < 8 ∧ (yb S r ∧ ∀ b, b < r → yb S b → ¬ ycn g S b r) ∧ ycn g S r a := by
    intro a ha
    obtain ⟨r, ⟨h1, h2⟩, h3⟩ := yleast (P := fun r => yb S r ∧ ycn g S r a) ⟨a, ha, ycn_r g S a⟩
    exact ⟨r, ytb_of hS h1, ⟨h1, fun b hb hs hc => h3 b hb ⟨hs, ycn_t hc h2⟩⟩, h2⟩
  obtain ⟨r, r1, r2, r3⟩ := rep a ha
  obtain ⟨q, q1, q2, q3⟩ := rep b hb
  have e := yct_i1 h r1 q1 r2 q2
  subst e
  exact ycn_t (ycn_sy hg r2.1 r3) q3
theorem ypt_ge1 {g : yG} {S : Nat} (hS : S < 2 ^ 8) (h : ∃ a, yb S a) : 1 ≤ ypt g S := by
  obtain ⟨a, h1, h2⟩ := yleast h
  exact yct_1 (ytb_of hS h1) ⟨h1, fun b hb hs => absurd hs (h2 b hb)⟩
theorem ypt_of {g : yG} {S : Nat} (h : ∀ a b, yb S a → yb S b → ycn g S a b) : ypt g S ≤ 1 := by
  refine Classical.byContradiction fun hn => ?_
  obtain ⟨i, j, h1, h2, h3, h4⟩ := yct_p2 (P := fun a => yb S a ∧ ∀ b, b < a → yb S b → ¬ ycn g S b a) (n := 8) (by have e : ypt g S = yct (fun a => yb S a ∧ ∀ b, b < a → yb S b → ¬ ycn g S b a) 8 := rfl; omega)
  exact h4.2 i h1 h3.1 (h i j h3.1 h4.1)
/-- a set that no line leaves is seen alike -/
theorem ymo_cl {g : yG} (hg : ysy g) {S N : Nat} (h1 : ysb N S) (h2 : ∃ a, yb N a) (h3 : ∀ u v, yb N u → g u v → yb S v → yb N v) : ymo g S N :=
  ⟨h1, h2, fun x hx hm a b ha hb => ⟨fun e => absurd (h3 a x ha (hg.1 _ _ e) hx) hm, fun e => absurd (h3 b x hb (hg.1 _ _ e) hx) hm⟩⟩
/-- the part of one -/
noncomputable def ycm (g : yG) (S a : Nat) : Nat := ybs (fun b => yb S b ∧ ycn g S a b) 8
theorem ycm_b {g : yG} {S a b : Nat} (hS : S < 2 ^ 8) : yb (ycm g S a) b ↔ yb S b ∧ ycn g S a b := by
  unfold ycm
  rw [yb_bs]
  exact ⟨fun h => h.2, fun h => ⟨ytb_of hS h.1, h⟩⟩
theorem ycm_st {g : yG} (hg : ysy g) {S a : Nat} (hS : S < 2 ^ 8) (ha : yb S a) : yst g S (ycm g S a) := by
  have mb : ∀ b, yb (ycm g S a) b ↔ yb S b ∧ ycn g S a b := fun b => ycm_b hS
  refine ⟨ymo_cl hg (fun b h => ((mb b).mp h).1) ⟨a, (mb a).mpr ⟨ha, ycn_r g S a⟩⟩ fun u v hu hv hs => (mb v).mpr ⟨hs, ycn_s ((mb u).mp hu).2 hv hs⟩, ?_⟩
  rintro M' ⟨m1, m2, m3⟩ ⟨e, e1, e2⟩
  by_cases hk : ysb (ycm g S a) M'
  · exact Or.inl hk
  · refine Or.inr ?_
    have hst : ∃ u v, yb M' u ∧ yb (ycm g S a) u ∧ g u v ∧ yb S v ∧ ¬ yb M' v := by
      refine Classical.byContradiction fun hn => hk fun k hk1 => ?_
      have hek : ycn g S e k := ycn_t (ycn_sy hg ha ((mb e).mp e1).2) ((mb k).mp hk1).2
      exact (hek (fun u => yb M' u ∧ yb (ycm g S a) u) ⟨e2, e1⟩ fun u v hu hv hs => by
        by_cases hv' : yb M' v
        · exact ⟨hv', (mb v).mpr ⟨hs, ycn_s ((mb u).mp hu.2).2 hv hs⟩⟩
        · exact absurd ⟨u, v, hu.1, hu.2, hv, hs, hv'⟩ hn).1
    obtain ⟨u, v, u1, u2, uv, v1, v2⟩ := hst
    intro m hm
    have gm : g v m := (m3 v v1 v2 u m u1 hm).mp (hg.1 _ _ uv)
    have cv : ycn g S a v := ycn_s ((mb u).mp u2).2 uv v1
    exact (mb m).mpr ⟨m1 m hm, ycn_s cv gm (m1 m hm)⟩
/-- all posts that a class has -/
noncomputable def yvs (g : yG) (x : yA) : Nat := ybs (fun a => ∃ y, ycl g x y ∧ (y.1 = a ∨ y.2 = a)) 8
theorem yvs_mo {g : yG} (hg : ysy g) {S : Nat} (hS : S < 2 ^ 8) {x : yA} (hx : yin g S x.1 x.2) : ymo g S (yvs (yin g S) x) ∧ ∀ a, yb (yvs (yin g S) x) a ↔ ∃ y, ycl (yin g S) x y ∧ (y.1 = a ∨ y.2 = a) := by
  have hg' := yin_sy hg S
  have mb : ∀ a, yb (yvs (yin g S) x) a ↔ ∃ y, ycl (yin g S) x y ∧ (y.1 = a ∨ y.2 = a) := by
    intro a
    unfold yvs
    rw [yb_bs]
    refine ⟨fun h => h.2, fun h => ⟨?_, h⟩⟩
    obtain ⟨y, h1, h2⟩ := h
    have := ycl_e h1 hx
    rcases h2 with e | e
    · rw [← e]; exact ytb_of hS this.2.1
    · rw [← e]; exact ytb_of hS this.2.2
  refine ⟨⟨?_, ⟨x.1, (mb _).mpr ⟨x, ycl_r _ x, Or.inl rfl⟩⟩, ?_⟩, mb⟩
  · intro a ha
    obtain ⟨y, h1, h2⟩ := (mb a).mp ha
    have := ycl_e h1 hx
    rcases h2 with e | e
    · rw [← e]; exact this.2.1
    · rw [← e]; exact this.2.2
  · intro z hz hzn
    have one : ∀ y, ycl (yin g S) x y → (g z y.1 ↔ g z y.2) := by
      intro y hy
      have ey := ycl_e hy hx
      have n1 : z ≠ y.1 := fun e => hzn ((mb z).mpr ⟨y, hy, Or.inl e.symm⟩)
      have n2 : z ≠ y.2 := fun e => hzn ((mb z).mpr ⟨y, hy, Or.inr e.symm⟩)
      constructor
      · intro e
        refine Classical.byContradiction fun hn => hzn ((mb z).mpr ⟨(y.1, z), ycl_s hy ⟨ey, ⟨hg.1 _ _ e, ey.2.1, hz⟩, Or.inl ⟨rfl, n2.symm, fun h => hn (hg.1 _ _ h.1)⟩⟩, Or.inr rfl⟩)
      · intro e
        refine Classical.byContradiction fun hn => hzn ((mb z).mpr ⟨(z, y.2), ycl_s hy ⟨ey, ⟨e, hz, ey.2.2⟩, Or.inr ⟨rfl, n1.symm, fun h => hn (hg.1 _ _ h.1)⟩⟩, Or.inl rfl⟩)
    have all : ∀ y, ycl (yin g S) x y → ((g z y.1 ↔ g z x.1) ∧ (g z y.2 ↔ g z x.1)) := by
      intro y hy
      refine ycl_i hy (fun y => (g z y.1 ↔ g z x.1) ∧ (g z y.2 ↔ g z x.1)) ⟨Iff.rfl, (one x (ycl_r _ x)).symm⟩ ?_
      intro y y' hy ih hf
      have o := one y' (ycl_s hy hf)
      rcases hf.2.2 with ⟨e, _⟩ | ⟨e, _⟩
      · have : g z y'.1 ↔ g z x.1 := by rw [← e]; exact ih.1
        exact ⟨this, o.symm.trans this⟩
      · have : g z y'.2 ↔ g z x.1 := by rw [← e]; exact ih.2
        exact ⟨o.trans this, this⟩
    intro a b ha hb
    obtain ⟨y, h1, h2⟩ := (mb a).mp ha
    obtain ⟨w, h3, h4⟩ := (mb b).mp hb
    have ka : g z a ↔ g z x.1 := by
      rcases h2 with e | e
      · rw [← e]; exact (all y h1).1
      · rw [← e]; exact (all y h1).2
    have kb : g z b ↔ g z x.1 := by
      rcases h4 with e | e
      · rw [← e]; exact (all w h3).1
      · rw [← e]; exact (all w h3).2
    exact ka.trans kb.symm
/-- a class of a line within a set that is seen alike stays in it -/
theorem ymo_st {g : yG} (hg : ysy g) {S M : Nat} (hm : ymo g S M) {x y : yA} (h1 : yb M x.1) (h2 : yb M x.2) (h : ycl (yin g S) x y) : yb M y.1 ∧ yb M y.2 := by
  refine ycl_i h (fun y => yb M y.1 ∧ yb M y.2) ⟨h1, h2⟩ ?_
  intro u v _ ih hf
  obtain ⟨e1, e2, e3⟩ := hf
  rcases e3 with ⟨r1, r2, r3⟩ | ⟨r1, r2, r3⟩
  · refine ⟨by rw [← r1]; exact ih.1, Classical.byContradiction fun hn => r3 ?_⟩
    have : g v.2 u.1 := by rw [r1]; exact hg.1 _ _ e2.1
    exact ⟨hg.1 _ _ ((hm.2.2 v.2 e2.2.2 hn u.1 u.2 ih.1 ih.2).mp this), e1.2.2, e2.2.2⟩
  · refine ⟨Classical.byContradiction fun hn => r3 ?_, by rw [← r1]; exact ih.2⟩
    have : g v.1 u.2 := by rw [r1]; exact e2.1
    exact ⟨hg.1 _ _ ((hm.2.2 v.1 e2.2.1 hn u.2 u.1 ih.2 ih.1).mp this), e1.2.1, e2.2.1⟩
/-- one without sees all of a strong set by arrows of one class -/
theorem yst_un {g : yG} (hg : ysy g) {S M : Nat} (hS : S < 2 ^ 8) (hm : yst g S M) {z a b : Nat} (hz : yb S z) (hzn : ¬ yb M z) (ha : yb M a) (hb : yb M b) (hga : g z a) : ycl (yin g S) (z, a) (z, b) := by
  have hg' := yin_sy hg S
  have hgb : g z b := (hm.1.2.2 z hz hzn a b ha hb).mp hga
  have sa := hm.1.1 a ha
  have sb := hm.1.1 b hb
  by_cases hab : a = b
  · subst hab; exact ycl_r _ _
  by_cases hl : g a b
  · refine Classical.byContradiction fun hn => ?_
    have h1 : ¬ ycl (yin g S) (z, a) (b, a) := fun e => hzn (ymo_st hg hm.1 (x := (b, a)) hb ha (ycl_sy hg' e)).1
    obtain ⟨v1, v2⟩ := yvs_mo hg hS (x := (z, a)) ⟨hga, hz, sa⟩
    have hv : yb (yvs (yin g S) (z, a)) b := by
      rcases hm.2 _ v1 ⟨a, ha, (v2 a).mpr ⟨(z, a), ycl_r _ _, Or.inr rfl⟩⟩ with h | h
      · exact h b hb
      · exact absurd (h z ((v2 z).mpr ⟨(z, a), ycl_r _ _, Or.inl rfl⟩)) hzn
    obtain ⟨y, hy, e⟩ := (v2 b).mp hv
    have := ytri hg' (a := b) (b := z) (c := a) ⟨hg.1 _ _ hgb, sb, hz⟩ ⟨hg.1 _ _ hl, sb, sa⟩ h1 hn hy
    rcases e with e | e
    · rw [e] at this; exact hg.2 b this.1.1
    · rw [e] at this; exact hg.2 b this.2.1.1
  · exact ycl_1 ⟨⟨hga, hz, sa⟩, ⟨hgb, hz, sb⟩, Or.inl ⟨rfl, hab, fun e => hl e.1⟩⟩
theorem yTO_f {g : yG} (hg : ysy g) {T : yG} (hT : yTO g T) {x y : yA} (h : T x.1 x.2) (hf : yfc g x y) : T y.1 y.2 := by
  obtain ⟨t1, t2, t3, t4⟩ := hT
  obtain ⟨e1, e2, e3⟩ := hf
  rcases e3 with ⟨r1, r2, r3⟩ | ⟨r1, r2, r3⟩
  · rcases t2 _ _ e2 with h' | h'
    · exact h'
    · rw [r1] at h
      exact absurd (hg.1 _ _ (t1 _ _ (t4 _ _ _ h' h))) r3
  · rcases t2 _ _ e2 with h' | h'
    · exact h'
    · rw [r1] at h
      exact absurd (t1 _ _ (t4 _ _ _ h h')) r3
theorem yTO_cl {g : yG} (hg : ysy g) {T : yG} (hT : yTO g T) {x y : yA} (h : T x.1 x.2) (hc : ycl g x y) : T y.1 y.2 := ycl_i hc (fun y => T y.1 y.2) h fun _ _ _ h3 h4 => yTO_f hg hT h3 h4
theorem yTO_in {g T : yG} {S S' : Nat} (hs : ysb S' S) (hT : yTO (yin g S) T) : yTO (yin g S') fun a b => T a b ∧ yb S' a ∧ yb S' b := by
  obtain ⟨t1, t2, t3, t4⟩ := hT
  refine ⟨fun a b h => ⟨(t1 _ _ h.1).1, h.2⟩, fun a b h => ?_, fun a b h h2 => t3 _ _ h.1 h2.1, fun a b c h h2 => ⟨t4 _ _ _ h.1 h2.1, h.2.1, h2.2.2⟩⟩
  rcases t2 a b ⟨h.1, hs _ h.2.1, hs _ h.2.2⟩ with h' | h'
  · exact Or.inl ⟨h', h.2⟩
  · exact Or.inr ⟨h', h.2.2, h.2.1⟩
