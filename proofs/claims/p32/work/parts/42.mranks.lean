/-! the model's order: levels, covers, ways, straight orders -/
/-- the model's order is laid -/
def yML (n : Nat) (T : yG) (m : xmm) : Prop := m.1 144 17 = nI n ∧ yrw 164 (yro T) m ∧ yrw 165 (yci T) m
theorem yML_f {n : Nat} {T : yG} {L J : List Nat} {m m' : xmm} (h : yML n T m) (hf : yfm L J m m') (h1 : 17 ∉ J) (h2 : 164 ∉ 144 :: L) (h3 : 165 ∉ 144 :: L) : yML n T m' := ⟨by rw [hf.2 17 h1]; exact h.1, fun p hp => by rw [yfm_1 hf 164 p h2]; exact h.2.1 p hp, fun p hp => by rw [yfm_1 hf 165 p h3]; exact h.2.2 p hp⟩
theorem yML_r {n : Nat} {T : yG} {L : List Nat} {m m' : xmm} (h : yML n T m) (hf : yfr L m m') (h1 : 144 ∉ L) (h2 : 164 ∉ L) (h3 : 165 ∉ L) : yML n T m' := ⟨by rw [yfr_1 hf 144 17 h1]; exact h.1, fun p hp => by rw [yfr_1 hf 164 p h2]; exact h.2.1 p hp, fun p hp => by rw [yfr_1 hf 165 p h3]; exact h.2.2 p hp⟩
/-! levels -/
/-- one less, or NONE -/
def yv (k : Nat) : Int32 := if k = 0 then -1 else nI (k - 1)
theorem yv_le {a k : Nat} (ha : a < 2 ^ 30) (hk : k < 2 ^ 30) : nI a ≤ yv k ↔ a < k := by
  unfold yv
  by_cases h : k = 0
  · rw [if_pos h]
    have h2 : (-1 : Int32).toInt = -1 := by decide
    rw [Int32.le_iff_toInt_le, nI_toInt (by omega), h2]
    omega
  · rw [if_neg h, nI_leI (by omega) (by omega)]
    omega
theorem yv_s (k : Nat) : yv (k + 1) = nI k := by
  unfold yv
  rw [if_neg (by omega), Nat.add_sub_cancel]
theorem ymx_le {f : Nat → Nat} {c : Nat} : ∀ {n : Nat}, (∀ k, k < n → f k ≤ c) → ymx f n ≤ c := by
  intro n h
  rcases ymx_at (f := f) (n := n) with e | ⟨j, j1, e⟩
  · omega
  · rw [e]; exact h j j1
noncomputable def yow (n : Nat) (T : yG) (r : Nat) (l : Nat → Nat) (p q : Nat) : Nat := if r = 0 then 0 else ymx (fun q => yif (T q p) (l q + 1) 0) q
theorem ygl_yv (n : Nat) (T : yG) : ygl n T = yv (ymx (fun p => ylev n T p + 1) n) := by
  unfold ygl yv
  by_cases h : n = 0
  · subst h; rfl
  · rw [if_neg h]
    have e : ∀ k, k ≠ 0 → ymx (fun p => ylev n T p + 1) k = ymx (fun p => ylev n T p) k + 1 := by
      intro k
      induction k with
      | zero => intro h; exact absurd rfl h
      | succ k ih =>
        intro _
        rw [ymx_s, ymx_s]
        by_cases hk : k = 0
        · subst hk
          show max 0 _ = max 0 _ + 1
          rw [Nat.max_eq_right (Nat.zero_le _), Nat.max_eq_right (Nat.zero_le _)]
        · rw [ih hk]; omega
    rw [e n h, if_neg (by omega), Nat.add_sub_cancel]
/-! covers -/
/-! ways from below -/
theorem yxor2 {S p : Nat} (h : yb S p) : S ^^^ 2 ^ p = ynd S (2 ^ p) := by
  apply ytb_ext
  intro i
  rw [Nat.testBit_xor, show ((ynd S (2 ^ p)).testBit i = true ↔ _) from yb_nd, yb_pw]
  by_cases e : i = p
  · subst e
    have h3 : yb (2 ^ i) i := yb_pw.mpr rfl
    unfold yb at h3 h
    rw [h3, h]
    exact ⟨fun h => absurd h (by decide), fun h => absurd rfl h.2⟩
  · have h2 : (2 ^ p).testBit i = false := by
      rw [Nat.testBit_two_pow]
      exact decide_eq_false (fun h => e h.symm)
    rw [h2, Bool.xor_false]
    exact ⟨fun h => ⟨h, e⟩, fun h => h.1⟩
/-! ways from above -/
theorem yW_tot {n : Nat} {T : yG} {S : Nat} (hS : S < 2 ^ n) : ysm (fun p => yif (ynx T S p) (yW n T (S ||| 2 ^ p)) 0) n + (if S = 2 ^ n - 1 then 1 else 0) = yW n T S := by
  by_cases e : S = 2 ^ n - 1
  · subst e
    rw [if_pos rfl, yW_all, ysm_0]
    intro p hp
    exact yif_f (fun h => h.1 (yall_b.mpr hp))
  · rw [if_neg e, yW_s hS e, Nat.add_zero]
