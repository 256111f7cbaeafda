/-! how many: a list without twice the same tells all that have a property -/
def yhc {α : Type} (P : α → Prop) (k : Nat) : Prop := ∃ l : List α, l.Nodup ∧ (∀ x, x ∈ l ↔ P x) ∧ l.length = k
theorem yhc_u {α : Type} {P : α → Prop} {k j : Nat} (h : yhc P k) (h2 : yhc P j) : k = j := by
  obtain ⟨l, h1, h3, rfl⟩ := h
  obtain ⟨l2, h4, h5, rfl⟩ := h2
  exact (List.Perm.length_eq ((List.perm_ext_iff_of_nodup h1 h4).mpr fun a => (h3 a).trans (h5 a).symm))
theorem yhc_c {α : Type} {P Q : α → Prop} {k : Nat} (h : ∀ x, P x ↔ Q x) (h2 : yhc P k) : yhc Q k := by
  obtain ⟨l, h1, h3, h4⟩ := h2
  exact ⟨l, h1, fun x => (h3 x).trans (h x), h4⟩
theorem ymap_nd {α β : Type} {f : α → β} : ∀ {l : List α}, l.Nodup → (∀ x, x ∈ l → ∀ y, y ∈ l → f x = f y → x = y) → (l.map f).Nodup
  | [], _, _ => List.nodup_nil
  | a :: l, h, hi => by
    rw [List.nodup_cons] at h
    rw [List.map_cons, List.nodup_cons]
    refine ⟨fun hm => ?_, ymap_nd h.2 fun x hx y hy => hi x (List.mem_cons_of_mem a hx) y (List.mem_cons_of_mem a hy)⟩
    obtain ⟨b, hb, e⟩ := List.mem_map.mp hm
    have := hi b (List.mem_cons_of_mem a hb) a List.mem_cons_self e
    rw [this] at hb
    exact h.1 hb
theorem yhc_b {α β : Type} {P : α → Prop} {Q : β → Prop} {k : Nat} (f : α → β) (f' : β → α) (h1 : ∀ x, P x → Q (f x) ∧ f' (f x) = x) (h2 : ∀ y, Q y → P (f' y) ∧ f (f' y) = y) (h : yhc P k) : yhc Q k := by
  obtain ⟨l, h3, h4, h5⟩ := h
  refine ⟨l.map f, ymap_nd h3 ?_, ?_, by rw [List.length_map]; exact h5⟩
  · intro x hx y hy e
    rw [← (h1 x ((h4 x).mp hx)).2, ← (h1 y ((h4 y).mp hy)).2, e]
  · intro y
    rw [List.mem_map]
    constructor
    · rintro ⟨x, hx, rfl⟩
      exact (h1 x ((h4 x).mp hx)).1
    · intro hy
      exact ⟨f' y, (h4 _).mpr (h2 y hy).1, (h2 y hy).2⟩
theorem yhc_0 {α : Type} {P : α → Prop} (h : ∀ x, ¬ P x) : yhc P 0 := ⟨[], List.nodup_nil, fun x => ⟨fun h1 => absurd h1 List.not_mem_nil, fun h1 => absurd h1 (h x)⟩, rfl⟩
theorem yhc_1 {α : Type} {P : α → Prop} (a : α) (ha : P a) (h : ∀ x, P x → x = a) : yhc P 1 := ⟨[a], List.nodup_cons.mpr ⟨List.not_mem_nil, List.nodup_nil⟩, fun x => ⟨fun h1 => by rw [List.mem_singleton.mp h1]; exact ha, fun h1 => List.mem_singleton.mpr (h x h1)⟩, rfl⟩
theorem yhc_2 {α : Type} {P : α → Prop} (a b : α) (hab : a ≠ b) (ha : P a) (hb : P b) (h : ∀ x, P x → x = a ∨ x = b) : yhc P 2 := by
  refine ⟨[a, b], List.nodup_cons.mpr ⟨fun e => hab (List.mem_singleton.mp e), List.nodup_cons.mpr ⟨List.not_mem_nil, List.nodup_nil⟩⟩, fun x => ⟨fun h1 => ?_, fun h1 => ?_⟩, rfl⟩
  · rcases List.mem_cons.mp h1 with e | e
    · rw [e]; exact ha
    · rw [List.mem_singleton.mp e]; exact hb
  · rcases h x h1 with e | e
    · rw [e]; exact List.mem_cons_self
    · rw [e]; exact List.mem_cons_of_mem _ (List.mem_singleton.mpr rfl)
theorem yhc_or {α : Type} {P Q : α → Prop} {k j : Nat} (h : yhc P k) (h2 : yhc Q j) (hd : ∀ x, P x → ¬ Q x) : yhc (fun x => P x ∨ Q x) (k + j) := by
  obtain ⟨l, h3, h4, h5⟩ := h
  obtain ⟨l2, h6, h7, h8⟩ := h2
  refine ⟨l ++ l2, ?_, ?_, by rw [List.length_append, h5, h8]⟩
  · rw [List.nodup_append]
    refine ⟨h3, h6, fun a ha b hb e => ?_⟩
    subst e
    exact hd a ((h4 a).mp ha) ((h7 a).mp hb)
  · intro x
    rw [List.mem_append, h4, h7]
theorem yhc_sm {α : Type} {P : Nat → α → Prop} {f : Nat → Nat} : ∀ {n : Nat}, (∀ i, i < n → yhc (P i) (f i)) → (∀ i j x, i < j → j < n → P i x → ¬ P j x) → yhc (fun x => ∃ i, i < n ∧ P i x) (ysm f n)
  | 0, _, _ => yhc_0 fun x h => by obtain ⟨i, hi, _⟩ := h; exact absurd hi (Nat.not_lt_zero i)
  | n + 1, h, hd => by
    have ih := yhc_sm (fun i hi => h i (Nat.lt_succ_of_lt hi)) (fun i j x hi hj => hd i j x hi (Nat.lt_succ_of_lt hj))
    refine yhc_c ?_ (yhc_or ih (h n (Nat.lt_succ_self n)) ?_)
    · intro x
      constructor
      · rintro (⟨i, hi, hp⟩ | hp)
        · exact ⟨i, Nat.lt_succ_of_lt hi, hp⟩
        · exact ⟨n, Nat.lt_succ_self n, hp⟩
      · rintro ⟨i, hi, hp⟩
        by_cases e : i = n
        · subst e; exact Or.inr hp
        · exact Or.inl ⟨i, by omega, hp⟩
    · rintro x ⟨i, hi, hp⟩
      exact hd i n x hi (Nat.lt_succ_self n) hp
theorem yhc_ml {α β : Type} {P : α → Prop} {Q : β → Prop} {k j : Nat} (h : yhc P k) (h2 : yhc Q j) : yhc (fun x : α × β => P x.1 ∧ Q x.2) (k * j) := by
  obtain ⟨l, h3, h4, h5⟩ := h
  have key : ∀ (l : List α), l.Nodup → yhc (fun x : α × β => x.1 ∈ l ∧ Q x.2) (l.length * j) := by
    intro l
    induction l with
    | nil => intro _; rw [List.length_nil, Nat.zero_mul]; exact yhc_0 fun x hx => absurd hx.1 List.not_mem_nil
    | cons a l ih =>
      intro hn
      rw [List.nodup_cons] at hn
      have e1 : yhc (fun x : α × β => x.1 = a ∧ Q x.2) j := yhc_b (fun b => (a, b)) (fun x => x.2) (fun b hb => ⟨⟨rfl, hb⟩, rfl⟩) (fun y hy => ⟨hy.2, Prod.ext hy.1.symm rfl⟩) h2
      have e2 := yhc_or e1 (ih hn.2) (fun x hx hy => hn.1 (by rw [← hx.1]; exact hy.1))
      rw [List.length_cons, Nat.succ_mul, Nat.add_comm]
      refine yhc_c ?_ e2
      intro x
      rw [List.mem_cons]
      constructor
      · rintro (h | h)
        · exact ⟨Or.inl h.1, h.2⟩
        · exact ⟨Or.inr h.1, h.2⟩
      · rintro ⟨h | h, h2⟩
        · exact Or.inl ⟨h, h2⟩
        · exact Or.inr ⟨h, h2⟩
  have := key l h3
  rw [h5] at this
  exact yhc_c (fun x => by rw [h4]) this
/-- a product goes over those with a property, in whatever order -/
def yprl (F : Nat → Nat) : List Nat → Nat
  | [] => 1
  | a :: l => F a * yprl F l
theorem yprl_p {F : Nat → Nat} {l l2 : List Nat} (h : l.Perm l2) : yprl F l = yprl F l2 := by
  induction h with
  | nil => rfl
  | cons a _ ih => show F a * _ = F a * _; rw [ih]
  | swap a b l => show F b * (F a * _) = F a * (F b * _); rw [Nat.mul_left_comm]
  | trans _ _ i1 i2 => rw [i1, i2]
theorem yprl_m {F G : Nat → Nat} {f : Nat → Nat} : ∀ {l : List Nat}, (∀ x, x ∈ l → F x = G (f x)) → yprl F l = yprl G (l.map f)
  | [], _ => rfl
  | a :: l, h => by
    show F a * _ = G (f a) * yprl G (l.map f)
    rw [h a List.mem_cons_self, yprl_m fun x hx => h x (List.mem_cons_of_mem a hx)]
theorem yprl_a {F : Nat → Nat} {l2 : List Nat} : ∀ l : List Nat, yprl F (l ++ l2) = yprl F l * yprl F l2
  | [] => (Nat.one_mul _).symm
  | a :: l => by
    show F a * yprl F (l ++ l2) = F a * yprl F l * yprl F l2
    rw [yprl_a l, Nat.mul_assoc]
/-- those below n with a property -/
noncomputable def yls (P : Nat → Prop) : Nat → List Nat
  | 0 => []
  | n + 1 => yls P n ++ yif (P n) [n] []
theorem yls_s (P : Nat → Prop) (n : Nat) : yls P (n + 1) = yls P n ++ yif (P n) [n] [] := rfl
theorem yls_m (P : Nat → Prop) (x : Nat) : ∀ n : Nat, x ∈ yls P n ↔ x < n ∧ P x
  | 0 => ⟨fun h => absurd h List.not_mem_nil, fun h => absurd h.1 (Nat.not_lt_zero x)⟩
  | n + 1 => by
    rw [yls_s, List.mem_append, yls_m P x n]
    by_cases h : P n
    · rw [yif_t h, List.mem_singleton]
      constructor
      · rintro (h1 | h1)
        · exact ⟨by omega, h1.2⟩
        · subst h1; exact ⟨by omega, h⟩
      · rintro ⟨h1, h2⟩
        by_cases e : x = n
        · exact Or.inr e
        · exact Or.inl ⟨by omega, h2⟩
    · rw [yif_f h]
      constructor
      · rintro (h1 | h1)
        · exact ⟨by omega, h1.2⟩
        · exact absurd h1 List.not_mem_nil
      · rintro ⟨h1, h2⟩
        by_cases e : x = n
        · subst e; exact absurd h2 h
        · exact Or.inl ⟨by omega, h2⟩
theorem yls_n (P : Nat → Prop) : ∀ n : Nat, (yls P n).Nodup
  | 0 => List.nodup_nil
  | n + 1 => by
    rw [yls_s]
    by_cases h : P n
    · rw [yif_t h, List.nodup_append]
      refine ⟨yls_n P n, List.nodup_cons.mpr ⟨List.not_mem_nil, List.nodup_nil⟩, ?_⟩
      intro a ha b hb e
      rw [List.mem_singleton] at hb
      have := ((yls_m P a n).mp ha).1
      omega
    · rw [yif_f h, List.append_nil]
      exact yls_n P n
theorem yls_pr (P : Nat → Prop) (F : Nat → Nat) : ∀ n : Nat, ypr (fun k => yif (P k) (F k) 1) n = yprl F (yls P n)
  | 0 => rfl
  | n + 1 => by
    rw [ypr_s, yls_s, yprl_a, yls_pr P F n]
    by_cases h : P n
    · rw [yif_t h, yif_t h]
      show _ * F n = _ * (F n * 1)
      rw [Nat.mul_one]
    · rw [yif_f h, yif_f h]
      rfl
theorem ypr_b {P Q : Nat → Prop} {F G : Nat → Nat} {n : Nat} (f f' : Nat → Nat) (h1 : ∀ x, x < n → P x → f x < n ∧ Q (f x) ∧ f' (f x) = x ∧ F x = G (f x)) (h2 : ∀ y, y < n → Q y → f' y < n ∧ P (f' y) ∧ f (f' y) = y) : ypr (fun k => yif (P k) (F k) 1) n = ypr (fun k => yif (Q k) (G k) 1) n := by
  rw [yls_pr, yls_pr]
  rw [yprl_m (f := f) (G := G) fun x hx => by have := (yls_m P x n).mp hx; exact (h1 x this.1 this.2).2.2.2]
  apply yprl_p
  rw [List.perm_ext_iff_of_nodup]
  · intro y
    rw [yls_m, List.mem_map]
    constructor
    · rintro ⟨x, hx, rfl⟩
      have hx := (yls_m P x n).mp hx
      have := h1 x hx.1 hx.2
      exact ⟨this.1, this.2.1⟩
    · rintro ⟨hy, hq⟩
      have := h2 y hy hq
      exact ⟨f' y, (yls_m P _ n).mpr ⟨this.1, this.2.1⟩, this.2.2⟩
  · apply ymap_nd (yls_n P n)
    intro x hx y hy e
    have hx := (yls_m P x n).mp hx
    have hy := (yls_m P y n).mp hy
    rw [← (h1 x hx.1 hx.2).2.2.1, ← (h1 y hy.1 hy.2).2.2.1, e]
  · exact yls_n Q n
theorem ypr_ml (F G : Nat → Nat) : ∀ n : Nat, ypr (fun k => F k * G k) n = ypr F n * ypr G n
  | 0 => rfl
  | n + 1 => by
    rw [ypr_s, ypr_s, ypr_s, ypr_ml F G n]
    simp only [Nat.mul_assoc, Nat.mul_left_comm, Nat.mul_comm]
theorem ypr_o {F : Nat → Nat} : ∀ {n : Nat}, (∀ k, k < n → F k = 1) → ypr F n = 1
  | 0, _ => rfl
  | n + 1, h => by rw [ypr_s, ypr_o fun k hk => h k (Nat.lt_succ_of_lt hk), h n (Nat.lt_succ_self n)]
theorem ypr_e {F : Nat → Nat} {j : Nat} : ∀ {n : Nat}, j < n → (∀ k, k < n → k ≠ j → F k = 1) → ypr F n = F j
  | 0, h, _ => absurd h (Nat.not_lt_zero j)
  | n + 1, h, h2 => by
    rw [ypr_s]
    by_cases e : j = n
    · subst e
      rw [ypr_o fun k hk => h2 k (by omega) (by omega), Nat.one_mul]
    · rw [ypr_e (by omega) fun k hk hn => h2 k (by omega) hn, h2 n (Nat.lt_succ_self n) (by omega), Nat.mul_one]
/-! sets -/
abbrev yb (S a : Nat) : Prop := S.testBit a = true
def ysb (M S : Nat) : Prop := ∀ a, yb M a → yb S a
theorem yb_or {A B a : Nat} : yb (A ||| B) a ↔ yb A a ∨ yb B a := by
  unfold yb
  rw [Nat.testBit_or, Bool.or_eq_true]
theorem yb_an {A B a : Nat} : yb (A &&& B) a ↔ yb A a ∧ yb B a := by
  unfold yb
  rw [Nat.testBit_and, Bool.and_eq_true]
theorem yb_nd {A B a : Nat} : yb (ynd A B) a ↔ yb A a ∧ ¬ yb B a := by
  unfold yb
  rw [ynd_tb, Bool.and_eq_true, Bool.not_eq_true', Bool.not_eq_true]
theorem yb_pw {m a : Nat} : yb (2 ^ m) a ↔ a = m := by
  unfold yb
  rw [ytb2]
  exact eq_comm
theorem yb_0 {a : Nat} : ¬ yb 0 a := by
  unfold yb
  rw [Nat.zero_testBit]
  decide
theorem yb_bs {P : Nat → Prop} {n a : Nat} : yb (ybs P n) a ↔ a < n ∧ P a := ybs_tb P a n
theorem ysb_le {M S : Nat} (h : ysb M S) : M ≤ S := by
  have e : M &&& S = M := ytb_ext fun i => by
    have : yb (M &&& S) i ↔ yb M i := by rw [yb_an]; exact ⟨fun h => h.1, fun h1 => ⟨h1, h i h1⟩⟩
    exact this
  rw [← e]
  exact Nat.and_le_right
theorem ysb_eq {M S : Nat} (h : ysb M S) (h2 : ysb S M) : M = S := ytb_ext fun i => ⟨h i, h2 i⟩
theorem ysb_lt {M S a : Nat} (h : ysb M S) (h1 : yb S a) (h2 : ¬ yb M a) : M < S := by
  have := ysb_le h
  rcases Nat.lt_or_ge M S with h3 | h3
  · exact h3
  · have e : M = S := Nat.le_antisymm this h3
    rw [e] at h2
    exact absurd h1 h2
theorem yex_ne {S : Nat} (h : S ≠ 0) : ∃ a, yb S a := by
  refine Classical.byContradiction fun hn => h ?_
  apply ytb_ext
  intro i
  exact ⟨fun e => absurd ⟨i, e⟩ hn, fun e => absurd e yb_0⟩
/-- the least of a set -/
theorem yleast {P : Nat → Prop} (h : ∃ a, P a) : ∃ a, P a ∧ ∀ b, b < a → ¬ P b := by
  obtain ⟨a, ha⟩ := h
  induction a using Nat.strongRecOn with
  | ind a ih =>
    by_cases h : ∃ b, b < a ∧ P b
    · obtain ⟨b, hb, hp⟩ := h
      exact ih b hb hp
    · exact ⟨a, ha, fun b hb hp => h ⟨b, hb, hp⟩⟩
theorem yct_2 {P : Nat → Prop} {i j : Nat} : ∀ {n : Nat}, i < j → j < n → P i → P j → 2 ≤ yct P n
  | 0, _, h, _, _ => absurd h (Nat.not_lt_zero j)
  | n + 1, hij, hj, hi, hp => by
    have one : ∀ n, i < n → 1 ≤ yct P n := by
      intro n
      induction n with
      | zero => intro h; exact absurd h (Nat.not_lt_zero i)
      | succ n ih =>
        intro h
        rw [yct_s]
        by_cases e : i = n
        · subst e; rw [yif_t hi]; omega
        · have := ih (by omega); omega
    rw [yct_s]
    by_cases e : j = n
    · subst e
      rw [yif_t hp]
      have := one j hij
      omega
    · have := yct_2 (P := P) (n := n) hij (by omega) hi hp
      omega
theorem yct_1 {P : Nat → Prop} {i : Nat} : ∀ {n : Nat}, i < n → P i → 1 ≤ yct P n
  | 0, h, _ => absurd h (Nat.not_lt_zero i)
  | n + 1, h, hi => by
    rw [yct_s]
    by_cases e : i = n
    · subst e; rw [yif_t hi]; omega
    · have := yct_1 (P := P) (n := n) (by omega) hi; omega
theorem yct_i1 {P : Nat → Prop} {i j n : Nat} (h : yct P n ≤ 1) (hi : i < n) (hj : j < n) (h1 : P i) (h2 : P j) : i = j := by
  rcases Nat.lt_trichotomy i j with e | e | e
  · have := yct_2 e hj h1 h2; omega
  · exact e
  · have := yct_2 e hi h2 h1; omega
theorem yct_p1 {P : Nat → Prop} : ∀ {n : Nat}, 1 ≤ yct P n → ∃ i, i < n ∧ P i
  | 0, h => absurd h (show ¬ 1 ≤ 0 by decide)
  | n + 1, h => by
    by_cases e : P n
    · exact ⟨n, Nat.lt_succ_self n, e⟩
    · rw [yct_s, yif_f e] at h
      obtain ⟨i, hi, hp⟩ := yct_p1 h
      exact ⟨i, by omega, hp⟩
theorem yct_p2 {P : Nat → Prop} : ∀ {n : Nat}, 2 ≤ yct P n → ∃ i j, i < j ∧ j < n ∧ P i ∧ P j
  | 0, h => absurd h (show ¬ 2 ≤ 0 by decide)
  | n + 1, h => by
    by_cases e : P n
    · rw [yct_s, yif_t e] at h
      obtain ⟨i, hi, hp⟩ := yct_p1 (P := P) (n := n) (by omega)
      exact ⟨i, n, hi, Nat.lt_succ_self n, hp, e⟩
    · rw [yct_s, yif_f e] at h
      obtain ⟨i, j, h1, h2, h3, h4⟩ := yct_p2 h
      exact ⟨i, j, h1, by omega, h3, h4⟩
