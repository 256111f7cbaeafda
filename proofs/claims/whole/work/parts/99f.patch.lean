/-! a run of the constructors does not see what lies from cell 1900 on -/
def zpt (b : Nat → Nat → Int32) (M : xM) : xM := (fun k i => if 1900 ≤ k then b k i else M.1 k i, M.2)
def zRel (b : Nat → Nat → Int32) (A A' : xA) : Prop := match A with
  | none => True
  | some (.inl (v, M)) => A' = some (.inl (v, zpt b M))
  | some (.inr (.inl (q, l, st, M, c, s))) => A' = some (.inr (.inl (q, l, st, zpt b M, c, s)))
  | some (.inr (.inr ((j, vs, M), k))) => ∃ k', A' = some (.inr (.inr ((j, vs, zpt b M), k'))) ∧ ∀ v M1 Q, k (v, M1) = some Q → k' (v, zpt b M1) = some (Q.1, Q.2.1, Q.2.2.1, zpt b Q.2.2.2.1, Q.2.2.2.2)
theorem zsi {b : Nat → Nat → Int32} {M : xM} {k j : Nat} {v : Int32} (hk : k < 1900) : xsi (zpt b M) k j v = zpt b (xsi M k j v) := by
  refine Prod.ext ?_ rfl
  funext a e
  show (if a = k ∧ e = j then v else if 1900 ≤ a then b a e else M.1 a e) = if 1900 ≤ a then b a e else (if a = k ∧ e = j then v else M.1 a e)
  by_cases h : 1900 ≤ a
  · rw [if_neg (fun t => by omega), if_pos h, if_pos h]
  · rw [if_neg h, if_neg h]
theorem zpush {b : Nat → Nat → Int32} {M : xM} (hc : M.2.2.2 ≤ 1000) : xpush (zpt b M) = zpt b (xpush M) := by
  refine Prod.ext ?_ rfl
  funext a e
  show (if a = M.2.2.2 then 0 else if 1900 ≤ a then b a e else M.1 a e) = if 1900 ≤ a then b a e else (if a = M.2.2.2 then 0 else M.1 a e)
  by_cases h : 1900 ≤ a
  · rw [if_neg (fun t => by omega), if_pos h, if_pos h]
  · rw [if_neg h, if_neg h]
theorem zgo {b : Nat → Nat → Int32} {i rk q : Nat} {l : xL} {st : List Value} {M M1 : xM} {c s : Nat} (h : M1 = zpt b M) : zRel b (xgo i rk q l st M c s) (xgo i rk q l st M1 c s) := by
  rw [h]; exact rfl
theorem zite {b : Nat → Nat → Int32} {p : Prop} [Decidable p] {A B A' B' : xA} (h1 : p → zRel b A A') (h2 : ¬ p → zRel b B B') : zRel b (if p then A else B) (if p then A' else B') := by
  by_cases h : p
  · rw [if_pos h, if_pos h]; exact h1 h
  · rw [if_neg h, if_neg h]; exact h2 h
theorem zjp {b : Nat → Nat → Int32} {i rk pc : Nat} {l : xL} {st : List Value} {M : xM} {c s : Nat} {off : Int} : zRel b (xjp i rk pc off l st M c s) (xjp i rk pc off l st (zpt b M) c s) := by
  unfold xjp
  generalize (pc : Int) + off = x
  cases x with
  | ofNat t => exact rfl
  | negSucc _ => exact True.intro
theorem zbr {b : Nat → Nat → Int32} {i rk pc : Nat} {l : xL} {st : List Value} {M : xM} {c s : Nat} {off : Int} {p : Prop} [Decidable p] : zRel b (xbr i rk pc off l st M c s p) (xbr i rk pc off l st (zpt b M) c s p) := by
  unfold xbr
  generalize (pc : Int) + off = x
  cases x with
  | ofNat t => exact zite (fun _ => rfl) (fun _ => rfl)
  | negSucc _ => exact True.intro
theorem zobj {M : xM} {k ci : Nat} (h : xobj M k ci = true) : k < M.2.2.2 := by
  unfold xobj at h
  rw [Bool.and_eq_true] at h
  exact Nat.blt_eq.mp h.2
theorem zget {b : Nat → Nat → Int32} {i q k : Nat} {M : xM} (hc : M.2.2.2 ≤ 1000) : xget i q (zpt b M) k = xget i q M k := by
  unfold xget
  generalize xfl (xow i) q = o
  rcases o with _ | ⟨ci, j, c⟩
  · rfl
  · show (if c < 2 then (if xobj M k ci then some (Value.int (if 1900 ≤ k then b k j else M.1 k j)) else none) else _) = (if c < 2 then (if xobj M k ci then some (Value.int (M.1 k j)) else none) else _)
    by_cases h : xobj M k ci = true
    · have := zobj h
      rw [if_neg (show ¬ 1900 ≤ k by omega)]
      rfl
    · rw [if_neg h, if_neg h]
      rfl
theorem zput {b : Nat → Nat → Int32} {i q k : Nat} {M M' : xM} {v : Value} (hc : M.2.2.2 ≤ 1000) (h : xput i q M k v = some M') : xput i q (zpt b M) k v = some (zpt b M') := by
  unfold xput at h ⊢
  generalize xfl (xow i) q = o at h ⊢
  rcases o with _ | ⟨ci, j, c⟩
  · cases h
  · cases v with
    | int x =>
      have h' : (if xobj M k ci ∧ (c = 0 ∨ (c = 1 ∧ (x = 0 ∨ x = 1))) then some (xsi M k j x) else none) = some M' := h
      show (if xobj M k ci ∧ (c = 0 ∨ (c = 1 ∧ (x = 0 ∨ x = 1))) then some (xsi (zpt b M) k j x) else none) = some (zpt b M')
      by_cases g : xobj M k ci ∧ (c = 0 ∨ (c = 1 ∧ (x = 0 ∨ x = 1)))
      · rw [if_pos g] at h' ⊢
        have := zobj g.1
        rw [zsi (by omega), Option.some.inj h']
      · rw [if_neg g] at h'; cases h'
    | ref r =>
      have h' : (if xobj M k ci ∧ r < M.2.2.2 ∧ r < 1000 ∧ (c = 2 ∨ (c = 3 ∧ xki i = 2 ∧ xow i = ci)) then some (xsr M k j (r + 1)) else none) = some M' := h
      show (if xobj M k ci ∧ r < M.2.2.2 ∧ r < 1000 ∧ (c = 2 ∨ (c = 3 ∧ xki i = 2 ∧ xow i = ci)) then some (xsr (zpt b M) k j (r + 1)) else none) = some (zpt b M')
      by_cases g : xobj M k ci ∧ r < M.2.2.2 ∧ r < 1000 ∧ (c = 2 ∨ (c = 3 ∧ xki i = 2 ∧ xow i = ci))
      · rw [if_pos g] at h' ⊢
        rw [← Option.some.inj h']
        rfl
      · rw [if_neg g] at h'; cases h'
    | long _ => cases h
    | float _ => cases h
    | double _ => cases h
    | null => cases h
    | retAddr _ => cases h
theorem zcall {b : Nat → Nat → Int32} {i rk pc : Nat} {l : xL} {st : List Value} {M : xM} {c s : Nat} {vs rest : List Value} {j : Nat} : zRel b (xcall i rk pc l vs rest M c s j) (xcall i rk pc l vs rest (zpt b M) c s j) := by
  unfold xcall
  exact zite (fun _ => ⟨_, rfl, fun v M1 Q h => by cases h; rfl⟩) (fun _ => True.intro)
theorem zinv {b : Nat → Nat → Int32} {i rk pc : Nat} {l : xL} {st : List Value} {M : xM} {c s : Nat} {kind q : Nat} : zRel b (xinv kind i rk pc q l st M c s) (xinv kind i rk pc q l st (zpt b M) c s) := by
  unfold xinv
  generalize xcl (xow i) q = o
  rcases o with _ | ⟨j, ns⟩
  · exact True.intro
  · refine zite (fun _ => zite (fun _ => zite (fun _ => zcall) (fun _ => True.intro)) (fun _ => ?_)) (fun _ => True.intro)
    generalize (st.take (xna j)).reverse = w
    rcases w with _ | ⟨v, vs⟩
    · exact True.intro
    · cases v with
      | ref k => exact zite (fun _ => zcall) (fun _ => True.intro)
      | int _ => exact True.intro
      | long _ => exact True.intro
      | float _ => exact True.intro
      | double _ => exact True.intro
      | null => exact True.intro
      | retAddr _ => exact True.intro
