/-! the tokens: the model -/
def y27 (B : Nat → Nat) (s : Nat) : Nat → Nat
  | 0 => 0
  | n + 1 => 27 * y27 B s n + (B (s + n) - 96)
theorem y27_b {B : Nat → Nat} {s : Nat} : ∀ n, (∀ i, i < n → yLe (B (s + i))) → y27 B s n < 27 ^ n
  | 0, _ => by show 0 < 1; omega
  | n + 1, h => by
    have a := y27_b n fun i hi => h i (by omega)
    have b := (h n (by omega)).2
    show 27 * y27 B s n + (B (s + n) - 96) < 27 ^ (n + 1)
    rw [Nat.pow_succ]
    omega
theorem y27_8 {B : Nat → Nat} {s n : Nat} (h : ∀ i, i < n → yLe (B (s + i))) (hn : n ≤ 8) : y27 B s n < 2 ^ 63 := by
  have a := y27_b n h
  have b : 27 ^ n ≤ 27 ^ 8 := Nat.pow_le_pow_right (by decide) hn
  have c : 27 ^ 8 < 2 ^ 63 := by decide
  omega
theorem y27_i {B B' : Nat → Nat} {s s' : Nat} : ∀ n n', (∀ i, i < n → yLe (B (s + i))) → (∀ i, i < n' → yLe (B' (s' + i))) → (y27 B s n = y27 B' s' n' ↔ n = n' ∧ ∀ i, i < n → B (s + i) = B' (s' + i))
  | 0, 0, _, _ => ⟨fun _ => ⟨rfl, fun i hi => absurd hi (Nat.not_lt_zero i)⟩, fun _ => rfl⟩
  | 0, n' + 1, _, h' => by
    have b := h' n' (by omega)
    unfold yLe at b
    constructor
    · intro t
      have t' : 0 = 27 * y27 B' s' n' + (B' (s' + n') - 96) := t
      omega
    · rintro ⟨t, _⟩
      omega
  | n + 1, 0, h, _ => by
    have b := h n (by omega)
    unfold yLe at b
    constructor
    · intro t
      have t' : 27 * y27 B s n + (B (s + n) - 96) = 0 := t
      omega
    · rintro ⟨t, _⟩
      omega
  | n + 1, n' + 1, h, h' => by
    have b := h n (by omega)
    have b' := h' n' (by omega)
    have i := y27_i n n' (fun i hi => h i (by omega)) (fun i hi => h' i (by omega))
    unfold yLe at b b'
    constructor
    · intro t
      have t' : 27 * y27 B s n + (B (s + n) - 96) = 27 * y27 B' s' n' + (B' (s' + n') - 96) := t
      have d : B (s + n) = B' (s' + n') := by omega
      have c := i.mp (by omega)
      refine ⟨by omega, fun j hj => ?_⟩
      by_cases e : j = n
      · subst e; rw [d, c.1]
      · exact c.2 j (by omega)
    · rintro ⟨t, u⟩
      have c := i.mpr ⟨by omega, fun j hj => u j (by omega)⟩
      have d := u n (by omega)
      have e : n = n' := by omega
      show 27 * y27 B s n + (B (s + n) - 96) = 27 * y27 B' s' n' + (B' (s' + n') - 96)
      rw [c, d, e]
theorem y256_i {B B' : Nat → Nat} {s s' : Nat} : ∀ n n', (∀ i, i < n → yLe (B (s + i))) → (∀ i, i < n' → yLe (B' (s' + i))) → (y256 B s n = y256 B' s' n' ↔ n = n' ∧ ∀ i, i < n → B (s + i) = B' (s' + i))
  | 0, 0, _, _ => ⟨fun _ => ⟨rfl, fun i hi => absurd hi (Nat.not_lt_zero i)⟩, fun _ => rfl⟩
  | 0, n' + 1, _, h' => by
    have b := h' n' (by omega)
    unfold yLe at b
    constructor
    · intro t
      have t' : 0 = 256 * y256 B' s' n' + B' (s' + n') := t
      omega
    · rintro ⟨t, _⟩
      omega
  | n + 1, 0, h, _ => by
    have b := h n (by omega)
    unfold yLe at b
    constructor
    · intro t
      have t' : 256 * y256 B s n + B (s + n) = 0 := t
      omega
    · rintro ⟨t, _⟩
      omega
  | n + 1, n' + 1, h, h' => by
    have b := h n (by omega)
    have b' := h' n' (by omega)
    have i := y256_i n n' (fun i hi => h i (by omega)) (fun i hi => h' i (by omega))
    unfold yLe at b b'
    constructor
    · intro t
      have t' : 256 * y256 B s n + B (s + n) = 256 * y256 B' s' n' + B' (s' + n') := t
      have d : B (s + n) = B' (s' + n') := by omega
      have c := i.mp (by omega)
      refine ⟨by omega, fun j hj => ?_⟩
      by_cases e : j = n
      · subst e; rw [d, c.1]
      · exact c.2 j (by omega)
    · rintro ⟨t, u⟩
      have c := i.mpr ⟨by omega, fun j hj => u j (by omega)⟩
      have d := u n (by omega)
      have e : n = n' := by omega
      show 256 * y256 B s n + B (s + n) = 256 * y256 B' s' n' + B' (s' + n')
      rw [c, d, e]
/-- the model's words -/
def yzK (k : Nat) : Nat := y27 (yzW k) 0 (yzL k)
def yKy (m : xmm) : Prop := ∀ k, k < 4 → m.2 151 k = lN (yzK k)
theorem yzK_w {B : Nat → Nat} {s n k : Nat} (hk : k < 4) (h : ∀ i, i < n → yLe (B (s + i))) : yzK k = y27 B s n ↔ yzw B s n k := by
  have w : ∀ i, i < yzL k → yLe (yzW k (0 + i)) := fun i hi => by
    rw [Nat.zero_add]; exact yzW_l k hk i hi
  have a := y27_i (B := B) (B' := yzW k) (s := s) (s' := 0) n (yzL k) h w
  refine eq_comm.trans (a.trans ?_)
  unfold yzw
  constructor
  · rintro ⟨t, u⟩
    refine ⟨t, fun i hi => ?_⟩
    have := u i (by omega)
    rw [Nat.zero_add] at this
    exact this
  · rintro ⟨t, u⟩
    refine ⟨t, fun i hi => ?_⟩
    rw [Nat.zero_add]
    exact u i (by omega)
theorem yzK_b : ∀ k, k < 4 → yzK k < 2 ^ 63 := by decide
/-- the kinds as the model numbers them -/
def ymk (k : Nat) : Nat := [0, 1, 2, 4, 20, 21, 22, 23, 3, 0].getD k 0
/-- the tokens that the model has kept -/
def yMT (kd st vl g : Nat → Nat) (k : Nat) (m : xmm) : Prop := m.1 144 10 = nI k ∧ ∀ j, j < k → m.1 147 j = nI (ymk (kd j)) ∧ m.1 148 j = nI (st j) ∧ (kd j = 2 → m.1 149 j = nI (vl j)) ∧ (kd j = 1 → m.2 150 j = lN (g j))
noncomputable def yzg (B : Nat → Nat) (len k : Nat) : Nat := y27 B (yzt B len k) (yzm B len k)
