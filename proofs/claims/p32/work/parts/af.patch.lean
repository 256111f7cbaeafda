/-! a run of the constructor does not see the law's first row, nor what lies from cell 900 on -/
def zpt (b : Nat → Nat → Int32) (M : xM) : xM := (fun k i => if 900 ≤ k ∧ ¬ k = 1995 ∧ (¬ k = 1996 ∨ i = 999) then b k i else M.1 k i, M.2)
def zRel (b : Nat → Nat → Int32) (A A' : xA) : Prop := match A with
  | none => True
  | some (.inl (v, M)) => A' = some (.inl (v, zpt b M))
  | some (.inr (.inl (q, l, st, M, c, s))) => A' = some (.inr (.inl (q, l, st, zpt b M, c, s)))
  | some (.inr (.inr ((j, vs, M), k))) => ∃ k', A' = some (.inr (.inr ((j, vs, zpt b M), k'))) ∧ ∀ v M1 Q, k (v, M1) = some Q → k' (v, zpt b M1) = some (Q.1, Q.2.1, Q.2.2.1, zpt b Q.2.2.2.1, Q.2.2.2.2)
theorem zsi {b : Nat → Nat → Int32} {M : xM} {k j : Nat} {v : Int32} (hk : k < 900) : xsi (zpt b M) k j v = zpt b (xsi M k j v) := by
  refine Prod.ext ?_ rfl
  funext a e
  show (if a = k ∧ e = j then v else if 900 ≤ a ∧ ¬ a = 1995 ∧ (¬ a = 1996 ∨ e = 999) then b a e else M.1 a e) = if 900 ≤ a ∧ ¬ a = 1995 ∧ (¬ a = 1996 ∨ e = 999) then b a e else (if a = k ∧ e = j then v else M.1 a e)
  by_cases h : 900 ≤ a ∧ ¬ a = 1995 ∧ (¬ a = 1996 ∨ e = 999)
  · rw [if_neg (fun t => by omega), if_pos h, if_pos h]
  · rw [if_neg h, if_neg h]
theorem zxnu {M : xM} (hc : 1 ≤ M.2.2.2 ∧ M.2.2.2 ≤ 900) : xnu M.2.2.2 < 900 := by
  unfold xnu
  rw [if_neg (by omega)]
  omega
theorem zpush {b : Nat → Nat → Int32} {M : xM} {n : Nat} (hc : 1 ≤ M.2.2.2 ∧ M.2.2.2 ≤ 900) : xpush (zpt b M) n = zpt b (xpush M n) := by
  have hx := zxnu hc
  refine Prod.ext ?_ rfl
  funext a e
  show (if a = xnu M.2.2.2 then 0 else if a = 1996 ∧ e = xnu M.2.2.2 then Int32.ofNat n else if a = 1995 then Int32.ofNat (M.2.2.2 - 144) else if 900 ≤ a ∧ ¬ a = 1995 ∧ (¬ a = 1996 ∨ e = 999) then b a e else M.1 a e) = if 900 ≤ a ∧ ¬ a = 1995 ∧ (¬ a = 1996 ∨ e = 999) then b a e else (if a = xnu M.2.2.2 then 0 else if a = 1996 ∧ e = xnu M.2.2.2 then Int32.ofNat n else if a = 1995 then Int32.ofNat (M.2.2.2 - 144) else M.1 a e)
  generalize xnu M.2.2.2 = x at hx
  by_cases h : 900 ≤ a ∧ ¬ a = 1995 ∧ (¬ a = 1996 ∨ e = 999)
  · rw [if_neg (fun t => by omega), if_neg (fun t => by omega), if_neg (fun t => by omega), if_pos h, if_pos h]
  · rw [if_neg h, if_neg h]
theorem zgo {b : Nat → Nat → Int32} {i rk q : Nat} {l : xL} {st : List Value} {M M1 : xM} {c s : Nat} (h : M1 = zpt b M) : zRel b (xgo i rk q l st M c s) (xgo i rk q l st M1 c s) := by
  rw [h]; exact rfl
theorem zite {b : Nat → Nat → Int32} {p : Prop} [Decidable p] {A B A' B' : xA} (h1 : p → zRel b A A') (h2 : ¬ p → zRel b B B') : zRel b (if p then A else B) (if p then A' else B') := by
  by_cases h : p
  · rw [if_pos h, if_pos h]; exact h1 h
  · rw [if_neg h, if_neg h]; exact h2 h
theorem zitx {b : Nat → Nat → Int32} {p p' : Prop} [Decidable p] [Decidable p'] (e : p' ↔ p) {A B A' B' : xA} (h1 : p → zRel b A A') (h2 : ¬ p → zRel b B B') : zRel b (if p then A else B) (if p' then A' else B') := by
  by_cases h : p
  · rw [if_pos h, if_pos (e.mpr h)]; exact h1 h
  · rw [if_neg h, if_neg (fun t => h (e.mp t))]; exact h2 h
theorem zin1 {b : Nat → Nat → Int32} {M : xM} {t k : Nat} {x : Int32} (ht : (1 == t) = false) : xin1 (zpt b M) t k x = xin1 M t k x := by
  unfold xin1 xkM
  generalize xkd k = w
  generalize Nat.blt k 144 = c
  cases c with
  | true =>
    rw [cond_true, cond_true]
    rfl
  | false =>
    have e : ∀ (A B C : Bool), (((1 == t) && A) && B && C) = false := fun A B C => by rw [ht]; rfl
    exact (e _ _ _).trans (e _ _ _).symm
theorem zjp {b : Nat → Nat → Int32} {i rk pc : Nat} {l : xL} {st : List Value} {M : xM} {c s : Nat} {off : Int} : zRel b (xjp i rk pc off l st M c s) (xjp i rk pc off l st (zpt b M) c s) := by
  unfold xjp
  generalize (pc : Int) + off = x
  cases x with
  | ofNat t => exact rfl
  | negSucc _ => exact True.intro
theorem zbr {b : Nat → Nat → Int32} {i rk pc : Nat} {l : xL} {st : List Value} {M : xM} {c s : Nat} {off : Int} {p : Prop} [Decidable p] : zRel b (xbr i rk pc off l st M c s p) (xbr i rk pc off l st (zpt b M) c s p) := by
  unfold xbr
  generalize (pc : Int) + off = x
  cases x with
  | ofNat t => exact zite (fun _ => rfl) (fun _ => rfl)
  | negSucc _ => exact True.intro
theorem zobj {M : xM} {k ci : Nat} (hc : 1 ≤ M.2.2.2 ∧ M.2.2.2 ≤ 900) (h : xobj M k ci = true) : k < 900 := by
  unfold xobj at h
  rw [Bool.and_eq_true, Bool.and_eq_true] at h
  have h1 := h.1.1
  have h2 : xsg k < M.2.2.2 := Nat.blt_eq.mp h.2
  by_cases e : k = 999
  · rw [e] at h1
    exact absurd h1 (by decide)
  · unfold xsg at h2
    rw [if_neg e] at h2
    omega
theorem zget {b : Nat → Nat → Int32} {i q k : Nat} {M : xM} (hc : 1 ≤ M.2.2.2 ∧ M.2.2.2 ≤ 900) : xget i q (zpt b M) k = xget i q M k := by
  unfold xget
  generalize xfl (xow i) q = o
  rcases o with _ | ⟨ci, j, c⟩
  · rfl
  · show (if c < 2 then (if xobj M k ci then some (Value.int (if 900 ≤ k ∧ ¬ k = 1995 ∧ (¬ k = 1996 ∨ j = 999) then b k j else M.1 k j)) else none) else _) = (if c < 2 then (if xobj M k ci then some (Value.int (M.1 k j)) else none) else _)
    by_cases h : xobj M k ci = true
    · have := zobj hc h
      rw [if_neg (show ¬ (900 ≤ k ∧ ¬ k = 1995 ∧ (¬ k = 1996 ∨ j = 999)) from fun t => by omega)]
      rfl
    · rw [if_neg h, if_neg h]
      rfl
theorem zput {b : Nat → Nat → Int32} {i q k : Nat} {M M' : xM} {v : Value} (hc : 1 ≤ M.2.2.2 ∧ M.2.2.2 ≤ 900) (h : xput i q M k v = some M') : xput i q (zpt b M) k v = some (zpt b M') := by
  unfold xput at h ⊢
  generalize xfl (xow i) q = o at h ⊢
  rcases o with _ | ⟨ci, j, c⟩
  · cases h
  · cases v with
    | int x =>
      have h' : (if xobj M k ci ∧ (c = 0 ∨ (c = 1 ∧ (x = 0 ∨ x = 1))) then some (xsi M k j x) else none) = some M' := h
      show (if xobj M k ci ∧ (c = 0 ∨ (c = 1 ∧ (x = 0 ∨ x = 1))) then some (xsi (zpt b M) k j x) else none) = some (zpt b M')
      by_cases g : xobj M k ci ∧ (c = 0 ∨ (c = 1 ∧ (x = 0 ∨ x = 1)))
      · rw [if_pos g] at h' ⊢
        have := zobj hc g.1
        rw [zsi (by omega), Option.some.inj h']
      · rw [if_neg g] at h'; cases h'
    | ref r =>
      have h' : (if xobj M k ci ∧ xsg r < M.2.2.2 ∧ r < 1000 ∧ (c = 2 ∨ (c = 3 ∧ xki i = 2 ∧ xow i = ci)) then some (xsr M k j (r + 1)) else none) = some M' := h
      show (if xobj M k ci ∧ xsg r < M.2.2.2 ∧ r < 1000 ∧ (c = 2 ∨ (c = 3 ∧ xki i = 2 ∧ xow i = ci)) then some (xsr (zpt b M) k j (r + 1)) else none) = some (zpt b M')
      by_cases g : xobj M k ci ∧ xsg r < M.2.2.2 ∧ r < 1000 ∧ (c = 2 ∨ (c = 3 ∧ xki i = 2 ∧ xow i = ci))
      · rw [if_pos g] at h' ⊢
        rw [← Option.some.inj h']
        rfl
      · rw [if_neg g] at h'; cases h'
    | long _ => cases h
    | float _ => cases h
    | double _ => cases h
    | null => cases h
    | retAddr _ => cases h
theorem zcall {b : Nat → Nat → Int32} {i rk pc : Nat} {l : xL} {M : xM} {c s : Nat} {vs rest : List Value} {j : Nat} : zRel b (xcall i rk pc l vs rest M c s j) (xcall i rk pc l vs rest (zpt b M) c s j) := by
  unfold xcall
  exact zite (fun _ => ⟨_, rfl, fun v M1 Q h => by cases h; rfl⟩) (fun _ => True.intro)
theorem zinv {b : Nat → Nat → Int32} {i rk pc : Nat} {l : xL} {st : List Value} {M : xM} {c s : Nat} {kind q : Nat} : zRel b (xinv kind i rk pc q l st M c s) (xinv kind i rk pc q l st (zpt b M) c s) := by
  unfold xinv
  generalize xcl (xow i) q = o
  rcases o with _ | ⟨j, ns⟩
  · exact True.intro
  · refine zite (fun _ => zite (fun _ => zite (fun _ => zcall) (fun _ => True.intro)) (fun _ => ?_)) (fun _ => True.intro)
    generalize (st.take (xna j)).reverse = w
    rcases w with _ | ⟨v, vs⟩
    · exact True.intro
    · cases v with
      | ref k => exact zite (fun _ => zcall) (fun _ => True.intro)
      | int _ => exact True.intro
      | long _ => exact True.intro
      | float _ => exact True.intro
      | double _ => exact True.intro
      | null => exact True.intro
      | retAddr _ => exact True.intro
theorem zd_iconst {b : Nat → Nat → Int32} {i rk pc : Nat} {l : xL} {st : List Value} {M : xM} {c s : Nat} (hc : 1 ≤ M.2.2.2 ∧ M.2.2.2 ≤ 900) (v : Int) : zRel b (xdo i rk pc l st M c s (.iconst v)) (xdo i rk pc l st (zpt b M) c s (.iconst v)) := by
  exact rfl
theorem zd_bipush {b : Nat → Nat → Int32} {i rk pc : Nat} {l : xL} {st : List Value} {M : xM} {c s : Nat} (hc : 1 ≤ M.2.2.2 ∧ M.2.2.2 ≤ 900) (v : Int) : zRel b (xdo i rk pc l st M c s (.bipush v)) (xdo i rk pc l st (zpt b M) c s (.bipush v)) := by
  exact rfl
theorem zd_sipush {b : Nat → Nat → Int32} {i rk pc : Nat} {l : xL} {st : List Value} {M : xM} {c s : Nat} (hc : 1 ≤ M.2.2.2 ∧ M.2.2.2 ≤ 900) (v : Int) : zRel b (xdo i rk pc l st M c s (.sipush v)) (xdo i rk pc l st (zpt b M) c s (.sipush v)) := by
  exact rfl
theorem zd_lconst {b : Nat → Nat → Int32} {i rk pc : Nat} {l : xL} {st : List Value} {M : xM} {c s : Nat} (hc : 1 ≤ M.2.2.2 ∧ M.2.2.2 ≤ 900) (v : Fin 2) : zRel b (xdo i rk pc l st M c s (.lconst v)) (xdo i rk pc l st (zpt b M) c s (.lconst v)) := by
  exact rfl
theorem zd_ldc2 {b : Nat → Nat → Int32} {i rk pc : Nat} {l : xL} {st : List Value} {M : xM} {c s : Nat} (hc : 1 ≤ M.2.2.2 ∧ M.2.2.2 ≤ 900) (q : Nat) : zRel b (xdo i rk pc l st M c s (.ldc2_w q)) (xdo i rk pc l st (zpt b M) c s (.ldc2_w q)) := by
  show zRel b (match xkJ (xow i) q with
    | some v => xgo i rk (pc + 3) l (.long v :: st) M c s
    | none => none) (match xkJ (xow i) q with
    | some v => xgo i rk (pc + 3) l (.long v :: st) (zpt b M) c s
    | none => none)
  cases xkJ (xow i) q with
  | none => exact True.intro
  | some v => exact rfl
theorem zd_iload_n {b : Nat → Nat → Int32} {i rk pc : Nat} {l : xL} {st : List Value} {M : xM} {c s : Nat} (hc : 1 ≤ M.2.2.2 ∧ M.2.2.2 ≤ 900) (k : Fin 4) : zRel b (xdo i rk pc l st M c s (.iload_n k)) (xdo i rk pc l st (zpt b M) c s (.iload_n k)) := by
  show zRel b (match xlk l (k : Nat) with
    | some (.int x) => xgo i rk (pc + 1) l (.int x :: st) M c s
    | _ => none) (match xlk l (k : Nat) with
    | some (.int x) => xgo i rk (pc + 1) l (.int x :: st) (zpt b M) c s
    | _ => none)
  rcases xlk l (k : Nat) with _ | v
  · exact True.intro
  · cases v <;> first | exact True.intro | exact rfl
theorem zd_iload {b : Nat → Nat → Int32} {i rk pc : Nat} {l : xL} {st : List Value} {M : xM} {c s : Nat} (hc : 1 ≤ M.2.2.2 ∧ M.2.2.2 ≤ 900) (k : Nat) : zRel b (xdo i rk pc l st M c s (.iload k)) (xdo i rk pc l st (zpt b M) c s (.iload k)) := by
  show zRel b (match xlk l k with
    | some (.int x) => xgo i rk (pc + 2) l (.int x :: st) M c s
    | _ => none) (match xlk l k with
    | some (.int x) => xgo i rk (pc + 2) l (.int x :: st) (zpt b M) c s
    | _ => none)
  rcases xlk l k with _ | v
  · exact True.intro
  · cases v <;> first | exact True.intro | exact rfl
theorem zd_lload_n {b : Nat → Nat → Int32} {i rk pc : Nat} {l : xL} {st : List Value} {M : xM} {c s : Nat} (hc : 1 ≤ M.2.2.2 ∧ M.2.2.2 ≤ 900) (k : Fin 4) : zRel b (xdo i rk pc l st M c s (.lload_n k)) (xdo i rk pc l st (zpt b M) c s (.lload_n k)) := by
  show zRel b (match xlk l (k : Nat) with
    | some (.long x) => xgo i rk (pc + 1) l (.long x :: st) M c s
    | _ => none) (match xlk l (k : Nat) with
    | some (.long x) => xgo i rk (pc + 1) l (.long x :: st) (zpt b M) c s
    | _ => none)
  rcases xlk l (k : Nat) with _ | v
  · exact True.intro
  · cases v <;> first | exact True.intro | exact rfl
theorem zd_aload_n {b : Nat → Nat → Int32} {i rk pc : Nat} {l : xL} {st : List Value} {M : xM} {c s : Nat} (hc : 1 ≤ M.2.2.2 ∧ M.2.2.2 ≤ 900) (k : Fin 4) : zRel b (xdo i rk pc l st M c s (.aload_n k)) (xdo i rk pc l st (zpt b M) c s (.aload_n k)) := by
  show zRel b (match xlk l (k : Nat) with
    | some (.ref x) => if x = 1999 then none else xgo i rk (pc + 1) l (.ref x :: st) M c s
    | some .null => xgo i rk (pc + 1) l (.null :: st) M c s
    | _ => none) (match xlk l (k : Nat) with
    | some (.ref x) => if x = 1999 then none else xgo i rk (pc + 1) l (.ref x :: st) (zpt b M) c s
    | some .null => xgo i rk (pc + 1) l (.null :: st) (zpt b M) c s
    | _ => none)
  rcases xlk l (k : Nat) with _ | v
  · exact True.intro
  · cases v <;> first | exact True.intro | exact rfl | exact zite (fun _ => True.intro) (fun _ => rfl)
theorem zd_iinc {b : Nat → Nat → Int32} {i rk pc : Nat} {l : xL} {st : List Value} {M : xM} {c s : Nat} (hc : 1 ≤ M.2.2.2 ∧ M.2.2.2 ≤ 900) (k : Nat) (v : Int) : zRel b (xdo i rk pc l st M c s (.iinc k v)) (xdo i rk pc l st (zpt b M) c s (.iinc k v)) := by
  show zRel b (match xlk l k with
    | some (.int x) => if k < xml i then xgo i rk (pc + 3) (xst l k (.int (x + Int32.ofInt v))) st M c s else none
    | _ => none) (match xlk l k with
    | some (.int x) => if k < xml i then xgo i rk (pc + 3) (xst l k (.int (x + Int32.ofInt v))) st (zpt b M) c s else none
    | _ => none)
  rcases xlk l k with _ | v
  · exact True.intro
  · cases v <;> first | exact True.intro | exact zite (fun _ => rfl) (fun _ => True.intro)
theorem zd_dup {b : Nat → Nat → Int32} {i rk pc : Nat} {l : xL} {st : List Value} {M : xM} {c s : Nat} (hc : 1 ≤ M.2.2.2 ∧ M.2.2.2 ≤ 900) : zRel b (xdo i rk pc l st M c s .dup) (xdo i rk pc l st (zpt b M) c s .dup) := by
  rcases st with _ | ⟨v, st⟩
  · exact True.intro
  · exact zite (fun _ => rfl) (fun _ => True.intro)
theorem zd_istore_n {b : Nat → Nat → Int32} {i rk pc : Nat} {l : xL} {st : List Value} {M : xM} {c s : Nat} (hc : 1 ≤ M.2.2.2 ∧ M.2.2.2 ≤ 900) (k : Fin 4) : zRel b (xdo i rk pc l st M c s (.istore_n k)) (xdo i rk pc l st (zpt b M) c s (.istore_n k)) := by
  rcases st with _ | ⟨v, st⟩
  · exact True.intro
  · cases v <;> first | exact True.intro | exact zite (fun _ => rfl) (fun _ => True.intro)
theorem zd_iadd {b : Nat → Nat → Int32} {i rk pc : Nat} {l : xL} {st : List Value} {M : xM} {c s : Nat} (hc : 1 ≤ M.2.2.2 ∧ M.2.2.2 ≤ 900) : zRel b (xdo i rk pc l st M c s .iadd) (xdo i rk pc l st (zpt b M) c s .iadd) := by
  rcases st with _ | ⟨v, st⟩
  · exact True.intro
  · rcases st with _ | ⟨w, st⟩
    · cases v <;> exact True.intro
    · cases v <;> cases w <;> first | exact True.intro | exact rfl
theorem zd_isub {b : Nat → Nat → Int32} {i rk pc : Nat} {l : xL} {st : List Value} {M : xM} {c s : Nat} (hc : 1 ≤ M.2.2.2 ∧ M.2.2.2 ≤ 900) : zRel b (xdo i rk pc l st M c s .isub) (xdo i rk pc l st (zpt b M) c s .isub) := by
  rcases st with _ | ⟨v, st⟩
  · exact True.intro
  · rcases st with _ | ⟨w, st⟩
    · cases v <;> exact True.intro
    · cases v <;> cases w <;> first | exact True.intro | exact rfl
theorem zd_lmul {b : Nat → Nat → Int32} {i rk pc : Nat} {l : xL} {st : List Value} {M : xM} {c s : Nat} (hc : 1 ≤ M.2.2.2 ∧ M.2.2.2 ≤ 900) : zRel b (xdo i rk pc l st M c s .lmul) (xdo i rk pc l st (zpt b M) c s .lmul) := by
  rcases st with _ | ⟨v, st⟩
  · exact True.intro
  · rcases st with _ | ⟨w, st⟩
    · cases v <;> exact True.intro
    · cases v <;> cases w <;> first | exact True.intro | exact rfl
theorem zd_ladd {b : Nat → Nat → Int32} {i rk pc : Nat} {l : xL} {st : List Value} {M : xM} {c s : Nat} (hc : 1 ≤ M.2.2.2 ∧ M.2.2.2 ≤ 900) : zRel b (xdo i rk pc l st M c s .ladd) (xdo i rk pc l st (zpt b M) c s .ladd) := by
  rcases st with _ | ⟨v, st⟩
  · exact True.intro
  · rcases st with _ | ⟨w, st⟩
    · cases v <;> exact True.intro
    · cases v <;> cases w <;> first | exact True.intro | exact rfl
theorem zd_i2l {b : Nat → Nat → Int32} {i rk pc : Nat} {l : xL} {st : List Value} {M : xM} {c s : Nat} (hc : 1 ≤ M.2.2.2 ∧ M.2.2.2 ≤ 900) : zRel b (xdo i rk pc l st M c s .i2l) (xdo i rk pc l st (zpt b M) c s .i2l) := by
  rcases st with _ | ⟨v, st⟩
  · exact True.intro
  · cases v <;> first | exact True.intro | exact rfl
theorem zd_icmp {b : Nat → Nat → Int32} {i rk pc : Nat} {l : xL} {st : List Value} {M : xM} {c s : Nat} (hc : 1 ≤ M.2.2.2 ∧ M.2.2.2 ≤ 900) (o : Int) : zRel b (xdo i rk pc l st M c s (.if_icmp .ge o)) (xdo i rk pc l st (zpt b M) c s (.if_icmp .ge o)) := by
  rcases st with _ | ⟨v, st⟩
  · exact True.intro
  · rcases st with _ | ⟨w, st⟩
    · cases v <;> exact True.intro
    · cases v <;> cases w <;> first | exact True.intro | exact zbr
theorem zd_ifne {b : Nat → Nat → Int32} {i rk pc : Nat} {l : xL} {st : List Value} {M : xM} {c s : Nat} (hc : 1 ≤ M.2.2.2 ∧ M.2.2.2 ≤ 900) (o : Int) : zRel b (xdo i rk pc l st M c s (.ifCond .ne o)) (xdo i rk pc l st (zpt b M) c s (.ifCond .ne o)) := by
  rcases st with _ | ⟨v, st⟩
  · exact True.intro
  · cases v <;> first | exact True.intro | exact zbr
theorem zd_lreturn {b : Nat → Nat → Int32} {i rk pc : Nat} {l : xL} {st : List Value} {M : xM} {c s : Nat} (hc : 1 ≤ M.2.2.2 ∧ M.2.2.2 ≤ 900) : zRel b (xdo i rk pc l st M c s .lreturn) (xdo i rk pc l st (zpt b M) c s .lreturn) := by
  rcases st with _ | ⟨v, st⟩
  · exact True.intro
  · rcases st with _ | ⟨w, st⟩
    · cases v <;> first | exact True.intro | exact zite (fun _ => rfl) (fun _ => True.intro)
    · cases v <;> exact True.intro
theorem zd_return {b : Nat → Nat → Int32} {i rk pc : Nat} {l : xL} {st : List Value} {M : xM} {c s : Nat} (hc : 1 ≤ M.2.2.2 ∧ M.2.2.2 ≤ 900) : zRel b (xdo i rk pc l st M c s .return_) (xdo i rk pc l st (zpt b M) c s .return_) := by
  rcases st with _ | ⟨v, st⟩
  · exact zite (fun _ => rfl) (fun _ => True.intro)
  · cases v <;> exact True.intro
theorem zd_lastore {b : Nat → Nat → Int32} {i rk pc : Nat} {l : xL} {st : List Value} {M : xM} {c s : Nat} (hc : 1 ≤ M.2.2.2 ∧ M.2.2.2 ≤ 900) : zRel b (xdo i rk pc l st M c s .lastore) (xdo i rk pc l st (zpt b M) c s .lastore) := by
  rcases st with _ | ⟨v, st⟩
  · exact True.intro
  · rcases st with _ | ⟨w, st⟩
    · cases v <;> exact True.intro
    · rcases st with _ | ⟨u, st⟩
      · cases v <;> cases w <;> exact True.intro
      · cases v <;> cases w <;> cases u <;> first | exact True.intro | exact zitx (by rw [zin1 rfl]) (fun _ => zgo rfl) (fun _ => True.intro)
theorem zd_aastore {b : Nat → Nat → Int32} {i rk pc : Nat} {l : xL} {st : List Value} {M : xM} {c s : Nat} (hc : 1 ≤ M.2.2.2 ∧ M.2.2.2 ≤ 900) : zRel b (xdo i rk pc l st M c s .aastore) (xdo i rk pc l st (zpt b M) c s .aastore) := by
  rcases st with _ | ⟨v, st⟩
  · exact True.intro
  · rcases st with _ | ⟨w, st⟩
    · cases v <;> exact True.intro
    · rcases st with _ | ⟨u, st⟩
      · cases v <;> cases w <;> exact True.intro
      · cases v <;> cases w <;> cases u <;> first | exact True.intro | exact zitx (by rw [zin1 rfl]; exact Iff.rfl) (fun _ => zgo rfl) (fun _ => True.intro)
theorem zd_newarray {b : Nat → Nat → Int32} {i rk pc : Nat} {l : xL} {st : List Value} {M : xM} {c s : Nat} (hc : 1 ≤ M.2.2.2 ∧ M.2.2.2 ≤ 900) (ty : ArrayType) : zRel b (xdo i rk pc l st M c s (.newarray ty)) (xdo i rk pc l st (zpt b M) c s (.newarray ty)) := by
  rcases st with _ | ⟨v, st⟩
  · exact True.intro
  · cases v <;> first | exact True.intro | exact zite (fun _ => zgo (zpush hc)) (fun _ => True.intro)
theorem zd_anewarray {b : Nat → Nat → Int32} {i rk pc : Nat} {l : xL} {st : List Value} {M : xM} {c s : Nat} (hc : 1 ≤ M.2.2.2 ∧ M.2.2.2 ≤ 900) (q : Nat) : zRel b (xdo i rk pc l st M c s (.anewarray q)) (xdo i rk pc l st (zpt b M) c s (.anewarray q)) := by
  rcases st with _ | ⟨v, st⟩
  · exact True.intro
  · cases v <;> first | exact True.intro | exact zite (fun _ => zgo (zpush hc)) (fun _ => True.intro)
theorem zd_putfield {b : Nat → Nat → Int32} {i rk pc : Nat} {l : xL} {st : List Value} {M : xM} {c s : Nat} (hc : 1 ≤ M.2.2.2 ∧ M.2.2.2 ≤ 900) (q : Nat) : zRel b (xdo i rk pc l st M c s (.putfield q)) (xdo i rk pc l st (zpt b M) c s (.putfield q)) := by
  have h : ∀ (v : Value) (k : Nat) (st : List Value), zRel b (match xput i q M k v with
    | some M' => xgo i rk (pc + 3) l st M' c s
    | none => none) (match xput i q (zpt b M) k v with
    | some M' => xgo i rk (pc + 3) l st M' c s
    | none => none) := by
    intro v k st
    cases h : xput i q M k v with
    | none => exact True.intro
    | some M' => rw [zput hc h]; exact rfl
  rcases st with _ | ⟨v, st⟩
  · exact True.intro
  · rcases st with _ | ⟨w, st⟩
    · cases v <;> exact True.intro
    · cases w with
      | ref k => exact h v k st
      | int _ => exact True.intro
      | long _ => exact True.intro
      | float _ => exact True.intro
      | double _ => exact True.intro
      | null => exact True.intro
      | retAddr _ => exact True.intro
theorem zd_getfield {b : Nat → Nat → Int32} {i rk pc : Nat} {l : xL} {st : List Value} {M : xM} {c s : Nat} (hc : 1 ≤ M.2.2.2 ∧ M.2.2.2 ≤ 900) (q : Nat) : zRel b (xdo i rk pc l st M c s (.getfield q)) (xdo i rk pc l st (zpt b M) c s (.getfield q)) := by
  have h : ∀ (k : Nat) (st : List Value), zRel b (match xget i q M k with
    | some v => xgo i rk (pc + 3) l (v :: st) M c s
    | none => none) (match xget i q (zpt b M) k with
    | some v => xgo i rk (pc + 3) l (v :: st) (zpt b M) c s
    | none => none) := by
    intro k st
    rw [zget hc]
    cases xget i q M k with
    | none => exact True.intro
    | some v => exact rfl
  rcases st with _ | ⟨v, st⟩
  · exact True.intro
  · cases v with
    | ref k => exact h k st
    | int _ => exact True.intro
    | long _ => exact True.intro
    | float _ => exact True.intro
    | double _ => exact True.intro
    | null => exact True.intro
    | retAddr _ => exact True.intro
theorem zd_goto {b : Nat → Nat → Int32} {i rk pc : Nat} {l : xL} {st : List Value} {M : xM} {c s : Nat} (hc : 1 ≤ M.2.2.2 ∧ M.2.2.2 ≤ 900) (o : Int) : zRel b (xdo i rk pc l st M c s (.goto o)) (xdo i rk pc l st (zpt b M) c s (.goto o)) := by
  exact zjp
theorem zd_new {b : Nat → Nat → Int32} {i rk pc : Nat} {l : xL} {st : List Value} {M : xM} {c s : Nat} (hc : 1 ≤ M.2.2.2 ∧ M.2.2.2 ≤ 900) (q : Nat) : zRel b (xdo i rk pc l st M c s (.new q)) (xdo i rk pc l st (zpt b M) c s (.new q)) := by
  show zRel b (match xnw (xow i) q with
    | some ci => if xkd (xnu M.2.2.2) = (0, ci) ∧ c + 1 ≤ xmc i ∧ s + xnsl ci ≤ xms i then xgo i rk (pc + 3) l (.ref (xnu M.2.2.2) :: st) (xpush M 0) (c + 1) (s + xnsl ci) else none
    | none => none) (match xnw (xow i) q with
    | some ci => if xkd (xnu M.2.2.2) = (0, ci) ∧ c + 1 ≤ xmc i ∧ s + xnsl ci ≤ xms i then xgo i rk (pc + 3) l (.ref (xnu M.2.2.2) :: st) (xpush (zpt b M) 0) (c + 1) (s + xnsl ci) else none
    | none => none)
  rcases xnw (xow i) q with _ | ci
  · exact True.intro
  · exact zite (fun _ => zgo (zpush hc)) (fun _ => True.intro)
theorem zd_invokespecial {b : Nat → Nat → Int32} {i rk pc : Nat} {l : xL} {st : List Value} {M : xM} {c s : Nat} (hc : 1 ≤ M.2.2.2 ∧ M.2.2.2 ≤ 900) (q : Nat) : zRel b (xdo i rk pc l st M c s (.invokespecial q)) (xdo i rk pc l st (zpt b M) c s (.invokespecial q)) := by
  refine zite (fun _ => ?_) (fun _ => zinv)
  rcases st with _ | ⟨v, st⟩
  · exact True.intro
  · cases v with
    | ref k => exact zite (fun _ => True.intro) (fun _ => rfl)
    | int _ => exact True.intro
    | long _ => exact True.intro
    | float _ => exact True.intro
    | double _ => exact True.intro
    | null => exact True.intro
    | retAddr _ => exact True.intro
theorem zd_invokestatic {b : Nat → Nat → Int32} {i rk pc : Nat} {l : xL} {st : List Value} {M : xM} {c s : Nat} (hc : 1 ≤ M.2.2.2 ∧ M.2.2.2 ≤ 900) (q : Nat) (hm : xmth (xow i) q = 0) : zRel b (xdo i rk pc l st M c s (.invokestatic q)) (xdo i rk pc l st (zpt b M) c s (.invokestatic q)) := by
  show zRel b (match xmth (xow i) q, st with
    | 0, st => xinv 0 i rk pc q l st M c s
    | 1, .int y :: .int x :: st => if rk = 0 ∨ 8 < xcat st then none else xgo i rk (pc + 3) l (.int (if x < y then y else x) :: st) M c s
    | 2, .int y :: .int x :: st => if rk = 0 ∨ 8 < xcat st then none else xgo i rk (pc + 3) l (.int (if y < x then y else x) :: st) M c s
    | _, _ => none) (match xmth (xow i) q, st with
    | 0, st => xinv 0 i rk pc q l st (zpt b M) c s
    | 1, .int y :: .int x :: st => if rk = 0 ∨ 8 < xcat st then none else xgo i rk (pc + 3) l (.int (if x < y then y else x) :: st) (zpt b M) c s
    | 2, .int y :: .int x :: st => if rk = 0 ∨ 8 < xcat st then none else xgo i rk (pc + 3) l (.int (if y < x then y else x) :: st) (zpt b M) c s
    | _, _ => none)
  rw [hm]
  exact zinv
/-- the instructions of the constructors -/
def zok (i : Nat) : Instr → Bool
  | .iconst _ | .bipush _ | .sipush _ | .lconst _ | .ldc2_w _ | .iload_n _ | .iload _ | .lload_n _ | .aload_n _ | .iinc _ _ | .dup | .istore_n _ | .iadd | .isub | .lmul | .ladd | .i2l | .if_icmp .ge _ | .ifCond .ne _ | .lreturn | .return_ | .lastore | .aastore | .newarray _ | .anewarray _ | .putfield _ | .getfield _ | .goto _ | .new _ | .invokespecial _ => true
  | .invokestatic q => Nat.beq (xmth (xow i) q) 0
  | _ => false
theorem zdo {b : Nat → Nat → Int32} {i rk pc : Nat} {l : xL} {st : List Value} {M : xM} {c s : Nat} (hc : 1 ≤ M.2.2.2 ∧ M.2.2.2 ≤ 900) {op : Instr} (h : zok i op = true) : zRel b (xdo i rk pc l st M c s op) (xdo i rk pc l st (zpt b M) c s op) := by
  cases op with
  | iconst v => exact zd_iconst hc v
  | bipush v => exact zd_bipush hc v
  | sipush v => exact zd_sipush hc v
  | lconst v => exact zd_lconst hc v
  | ldc2_w v => exact zd_ldc2 hc v
  | iload_n k => exact zd_iload_n hc k
  | iload k => exact zd_iload hc k
  | lload_n k => exact zd_lload_n hc k
  | aload_n k => exact zd_aload_n hc k
  | iinc k v => exact zd_iinc hc k v
  | dup => exact zd_dup hc
  | istore_n k => exact zd_istore_n hc k
  | iadd => exact zd_iadd hc
  | isub => exact zd_isub hc
  | lmul => exact zd_lmul hc
  | ladd => exact zd_ladd hc
  | i2l => exact zd_i2l hc
  | if_icmp cd o => cases cd <;> first | exact zd_icmp hc o | exact absurd h Bool.false_ne_true
  | ifCond cd o => cases cd <;> first | exact zd_ifne hc o | exact absurd h Bool.false_ne_true
  | lreturn => exact zd_lreturn hc
  | return_ => exact zd_return hc
  | lastore => exact zd_lastore hc
  | aastore => exact zd_aastore hc
  | newarray ty => exact zd_newarray hc ty
  | anewarray q => exact zd_anewarray hc q
  | putfield q => exact zd_putfield hc q
  | getfield q => exact zd_getfield hc q
  | goto o => exact zd_goto hc o
  | new q => exact zd_new hc q
  | invokespecial q => exact zd_invokespecial hc q
  | invokestatic q => exact zd_invokestatic hc q (Nat.eq_of_beq_eq_true h)
  | _ => exact absurd h Bool.false_ne_true
/-- the interpreter, that stops at other instructions -/
def zokg (g : xG) : Bool := (match xop g.1 g.2.2.1 with
  | some (op, _) => zok g.1 op
  | none => true) && (Nat.ble 1 g.2.2.2.2.2.1.2.2.2 && Nat.ble g.2.2.2.2.2.1.2.2.2 900)
def zxk : Nat → xG → Option xR
  | 0, _ => none
  | n + 1, g => bif zokg g then xF (zxk n) g else none
theorem zact {b : Nat → Nat → Int32} {i rk pc : Nat} {l : xL} {st : List Value} {M : xM} {c s : Nat} (h : zokg (i, rk, pc, l, st, M, c, s) = true) : zRel b (xact (i, rk, pc, l, st, M, c, s)) (xact (i, rk, pc, l, st, zpt b M, c, s)) := by
  unfold zokg at h
  rw [Bool.and_eq_true] at h
  have h22 := h.2
  rw [Bool.and_eq_true] at h22
  have hc : 1 ≤ M.2.2.2 ∧ M.2.2.2 ≤ 900 := ⟨Nat.le_of_ble_eq_true h22.1, Nat.le_of_ble_eq_true h22.2⟩
  have h1 := h.1
  show zRel b (match xop i pc with
    | some (op, n) => bif Nat.beq (xsz op) 0 || Nat.beq n (xsz op) then xdo i rk pc l st M c s op else none
    | none => none) (match xop i pc with
    | some (op, n) => bif Nat.beq (xsz op) 0 || Nat.beq n (xsz op) then xdo i rk pc l st (zpt b M) c s op else none
    | none => none)
  have h1' : (match xop i pc with
    | some (op, _) => zok i op
    | none => true) = true := h1
  generalize xop i pc = o at h1' ⊢
  rcases o with _ | ⟨op, n⟩
  · exact True.intro
  · have h2 : zok i op = true := h1'
    show zRel b (bif Nat.beq (xsz op) 0 || Nat.beq n (xsz op) then xdo i rk pc l st M c s op else none) (bif Nat.beq (xsz op) 0 || Nat.beq n (xsz op) then xdo i rk pc l st (zpt b M) c s op else none)
    cases (Nat.beq (xsz op) 0 || Nat.beq n (xsz op)) with
    | false => exact True.intro
    | true => exact zdo hc h2
theorem zxk_p (b : Nat → Nat → Int32) : ∀ (n i rk pc : Nat) (l : xL) (st : List Value) (M : xM) (c s : Nat) (v : Option Value) (M' : xM), zxk n (i, rk, pc, l, st, M, c, s) = some (v, M') → xex n (i, rk, pc, l, st, zpt b M, c, s) = some (v, zpt b M') := by
  intro n
  induction n with
  | zero => intro i rk pc l st M c s v M' h; cases h
  | succ n ih =>
    intro i rk pc l st M c s v M' h
    have h0 : (bif zokg (i, rk, pc, l, st, M, c, s) then xF (zxk n) (i, rk, pc, l, st, M, c, s) else none) = some (v, M') := h
    cases hk : zokg (i, rk, pc, l, st, M, c, s) with
    | false => rw [hk] at h0; cases h0
    | true =>
      rw [hk] at h0
      have h1 : xF (zxk n) (i, rk, pc, l, st, M, c, s) = some (v, M') := h0
      have R := zact (b := b) hk
      show xF (xex n) (i, rk, pc, l, st, zpt b M, c, s) = some (v, zpt b M')
      unfold xF at h1 ⊢
      generalize xact (i, rk, pc, l, st, M, c, s) = A at h1 R
      generalize xact (i, rk, pc, l, st, zpt b M, c, s) = A' at R ⊢
      rcases A with _ | (⟨v1, M1⟩ | (⟨q, l1, st1, M1, c1, s1⟩ | ⟨⟨j, vs, M1⟩, k⟩))
      · cases h1
      · have e : some (v1, M1) = some (v, M') := h1
        have R' : A' = some (.inl (v1, zpt b M1)) := R
        rw [R']
        cases e
        rfl
      · have e : zxk n (i, rk, q, l1, st1, M1, c1, s1) = some (v, M') := h1
        have R' : A' = some (.inr (.inl (q, l1, st1, zpt b M1, c1, s1))) := R
        rw [R']
        exact ih _ _ _ _ _ _ _ _ _ _ e
      · obtain ⟨k', R1, R2⟩ : ∃ k', A' = some (.inr (.inr ((j, vs, zpt b M1), k'))) ∧ ∀ v M1 Q, k (v, M1) = some Q → k' (v, zpt b M1) = some (Q.1, Q.2.1, Q.2.2.1, zpt b Q.2.2.2.1, Q.2.2.2.2) := R
        rw [R1]
        have e : (bif xokc j vs then (zxk n (xini (j, vs, M1))).bind fun r => bif xrok (xrt j) r.1 then (k r).bind fun q => zxk n (i, rk, q) else none else none) = some (v, M') := h1
        show (bif xokc j vs then (xex n (xini (j, vs, zpt b M1))).bind fun r => bif xrok (xrt j) r.1 then (k' r).bind fun q => xex n (i, rk, q) else none else none) = some (v, zpt b M')
        cases ho : xokc j vs with
        | false => rw [ho] at e; cases e
        | true =>
          rw [ho] at e
          have e1 : ((zxk n (xini (j, vs, M1))).bind fun r => bif xrok (xrt j) r.1 then (k r).bind fun q => zxk n (i, rk, q) else none) = some (v, M') := e
          rw [Option.bind_eq_some_iff] at e1
          obtain ⟨⟨v2, M2⟩, e2, e3⟩ := e1
          have x2 : xex n (xini (j, vs, zpt b M1)) = some (v2, zpt b M2) := ih j (xrk j vs) 0 (xnm j 0 (xargs vs)) [] M1 0 0 v2 M2 e2
          cases hr : xrok (xrt j) v2 with
          | false =>
            have e4 : (bif xrok (xrt j) v2 then (k (v2, M2)).bind fun q => zxk n (i, rk, q) else none) = some (v, M') := e3
            rw [hr] at e4; cases e4
          | true =>
            have e4 : (bif xrok (xrt j) v2 then (k (v2, M2)).bind fun q => zxk n (i, rk, q) else none) = some (v, M') := e3
            rw [hr] at e4
            have e5 : ((k (v2, M2)).bind fun q => zxk n (i, rk, q)) = some (v, M') := e4
            rw [Option.bind_eq_some_iff] at e5
            obtain ⟨Q, e6, e7⟩ := e5
            have x6 := R2 v2 M2 Q e6
            have x7 := ih i rk Q.1 Q.2.1 Q.2.2.1 Q.2.2.2.1 Q.2.2.2.2.1 Q.2.2.2.2.2 v M' e7
            show ((xex n (xini (j, vs, zpt b M1))).bind fun r => bif xrok (xrt j) r.1 then (k' r).bind fun q => xex n (i, rk, q) else none) = some (v, zpt b M')
            rw [x2, Option.bind_some]
            show (bif xrok (xrt j) v2 then (k' (v2, zpt b M2)).bind fun q => xex n (i, rk, q) else none) = some (v, zpt b M')
            rw [hr, x6]
            exact x7
