/-! runs over the memory of ints and longs alone: when all cells are made, the references stay (xR0). xT: from a place in a method the interpreter comes to an answer. -/
abbrev xmm : Type := (Nat → Nat → Int32) × (Nat → Nat → Int64)
abbrev xZ : Type := Option Value × xmm
/-- how many cells are made: the class's 144, the law's first row, the rows that it has made since -/
def xctm (m : xmm) : Nat := 145 + (m.1 1995 0).toNatClampNeg % 800
theorem xctm_lt (m : xmm) : 145 ≤ xctm m ∧ xctm m < 945 := by
  unfold xctm
  have := Nat.mod_lt (m.1 1995 0).toNatClampNeg (show 0 < 800 by decide)
  omega
def xag (M : xM) (m : xmm) : Prop := M.1 = m.1 ∧ M.2.1 = m.2 ∧ M.2.2.2 = xctm m ∧ ∀ k i, k < xK0 → i < 64 → M.2.2.1 k i = xR0 k i
def xmk (m : xmm) : xM := (m.1, m.2, xR0, xctm m)
theorem xsg_own {m : xmm} {k : Nat} (h : k < xK0) : xsg k < xctm m := by
  have h : k < 144 := h
  have := (xctm_lt m).1
  unfold xsg
  rw [if_neg (by omega)]
  omega
theorem xag_mk (m : xmm) : xag (xmk m) m := ⟨rfl, rfl, rfl, fun _ _ _ _ => rfl⟩
theorem xex_mono : ∀ (n : Nat) (g : xG) (r : xR), xex n g = some r → xex (n + 1) g = some r := by
  intro n
  induction n with
  | zero => intro g r h; cases h
  | succ n ih =>
    intro g r h
    have h : xF (xex n) g = some r := h
    show xF (xex (n + 1)) g = some r
    unfold xF at h ⊢
    split at h
    · cases h
    · rename_i ha; exact h
    · exact ih _ _ h
    · rename_i a k ha
      cases hok : xokc a.1 a.2.1 with
      | false => rw [hok] at h; cases h
      | true =>
        rw [hok] at h
        have h : ((xex n (xini a)).bind fun r => bif xrok (xrt a.1) r.1 then (k r).bind fun q => xex n (g.1, g.2.1, q) else none) = some r := h
        show ((xex (n + 1) (xini a)).bind fun r => bif xrok (xrt a.1) r.1 then (k r).bind fun q => xex (n + 1) (g.1, g.2.1, q) else none) = some r
        rw [Option.bind_eq_some_iff] at h ⊢
        obtain ⟨r1, h1, h⟩ := h
        refine ⟨r1, ih _ _ h1, ?_⟩
        cases hrk : xrok (xrt a.1) r1.1 with
        | false => rw [hrk] at h; cases h
        | true =>
          rw [hrk] at h
          have h : ((k r1).bind fun q => xex n (g.1, g.2.1, q)) = some r := h
          show ((k r1).bind fun q => xex (n + 1) (g.1, g.2.1, q)) = some r
          rw [Option.bind_eq_some_iff] at h ⊢
          obtain ⟨q, h2, h⟩ := h
          exact ⟨q, h2, ih _ _ h⟩
theorem xex_le {n k : Nat} {g : xG} {r : xR} (h : xex n g = some r) (hk : n ≤ k) : xex k g = some r := by
  induction k with
  | zero => rw [Nat.le_zero.mp hk] at h; exact h
  | succ k ih =>
    by_cases e : n = k + 1
    · rw [← e]; exact h
    · exact xex_mono _ _ _ (ih (by omega))
theorem xex_det {n k : Nat} {g : xG} {r r' : xR} (h : xex n g = some r) (h' : xex k g = some r') : r = r' := by
  have h1 := xex_le h (Nat.le_max_left n k)
  have h2 := xex_le h' (Nat.le_max_right n k)
  exact Option.some.inj (h1.symm.trans h2)
def xTc (cc ss i rk pc : Nat) (l : xL) (st : List Value) (m : xmm) (z : xZ) : Prop := ∀ M, xag M m → ∃ n M', xex n (i, rk, pc, l, st, M, cc, ss) = some (z.1, M') ∧ xag M' z.2
abbrev xT := xTc 0 0
theorem xT_det {cc ss i rk pc : Nat} {l : xL} {st : List Value} {m : xmm} {z z' : xZ} (h : xTc cc ss i rk pc l st m z) (h' : xTc cc ss i rk pc l st m z') : z = z' := by
  obtain ⟨n, M1, h1, h2⟩ := h _ (xag_mk m)
  obtain ⟨k, M2, h3, h4⟩ := h' _ (xag_mk m)
  have e := xex_det h1 h3
  have e1 : z.1 = z'.1 := (Prod.mk.inj e).1
  have e2 : M1 = M2 := (Prod.mk.inj e).2
  subst e2
  exact Prod.ext e1 (Prod.ext (h2.1.symm.trans h4.1) (h2.2.1.symm.trans h4.2.1))
noncomputable def xHw (cc ss i rk pc : Nat) (l : xL) (st : List Value) (m : xmm) : Option xZ := @dite _ (∃ z, xTc cc ss i rk pc l st m z) (Classical.propDecidable _) (fun h => some (Classical.choose h)) (fun _ => none)
theorem xHw_iff {cc ss i rk pc : Nat} {l : xL} {st : List Value} {m : xmm} {z : xZ} : xHw cc ss i rk pc l st m = some z ↔ xTc cc ss i rk pc l st m z := by
  unfold xHw
  by_cases h : ∃ z, xTc cc ss i rk pc l st m z
  · rw [dif_pos h]
    constructor
    · intro e; cases e; exact Classical.choose_spec h
    · intro hz; rw [xT_det (Classical.choose_spec h) hz]
  · rw [dif_neg h]
    constructor
    · intro e; cases e
    · intro hz; exact absurd ⟨z, hz⟩ h
noncomputable abbrev xHv := xHw 0 0
theorem xHv_iff {i rk pc : Nat} {l : xL} {st : List Value} {m : xmm} {z : xZ} : xHv i rk pc l st m = some z ↔ xT i rk pc l st m z := xHw_iff
noncomputable def xHm (j : Nat) (vs : List Value) (m : xmm) : Option xZ := xHv j (xrk j vs) 0 (xnm j 0 (xargs vs)) [] m
def xtI (o : Option xZ) : Option (Int32 × xmm) := o.bind fun r => match r.1 with
  | some (.int x) => some (x, r.2)
  | _ => none
def xtJ (o : Option xZ) : Option (Int64 × xmm) := o.bind fun r => match r.1 with
  | some (.long x) => some (x, r.2)
  | _ => none
def xtV (o : Option xZ) : Option xmm := o.bind fun r => match r.1 with
  | none => some r.2
  | _ => none
/-- a reference or null: 0, or its number and one more -/
def xtR (o : Option xZ) : Option (Nat × xmm) := o.bind fun r => match r.1 with
  | some (.ref k) => some (k + 1, r.2)
  | some .null => some (0, r.2)
  | _ => none
theorem xtI_some {o : Option xZ} {z : Int32 × xmm} : xtI o = some z ↔ o = some (some (.int z.1), z.2) := by
  unfold xtI
  rw [Option.bind_eq_some_iff]
  constructor
  · rintro ⟨⟨v, m⟩, h1, h2⟩
    dsimp only at h2
    split at h2
    · rename_i x; cases h2; exact h1
    · cases h2
  · intro h; exact ⟨_, h, rfl⟩
theorem xtJ_some {o : Option xZ} {z : Int64 × xmm} : xtJ o = some z ↔ o = some (some (.long z.1), z.2) := by
  unfold xtJ
  rw [Option.bind_eq_some_iff]
  constructor
  · rintro ⟨⟨v, m⟩, h1, h2⟩
    dsimp only at h2
    split at h2
    · rename_i x; cases h2; exact h1
    · cases h2
  · intro h; exact ⟨_, h, rfl⟩
theorem xtV_some {o : Option xZ} {z : xmm} : xtV o = some z ↔ o = some (none, z) := by
  unfold xtV
  rw [Option.bind_eq_some_iff]
  constructor
  · rintro ⟨⟨v, m⟩, h1, h2⟩
    dsimp only at h2
    split at h2
    · rename_i x; cases h2; exact h1
    · cases h2
  · intro h; exact ⟨_, h, rfl⟩
def xvR : Nat → Value
  | 0 => .null
  | k + 1 => .ref k
theorem xtR_some {o : Option xZ} {z : Nat × xmm} : xtR o = some z ↔ o = some (some (xvR z.1), z.2) := by
  unfold xtR
  rw [Option.bind_eq_some_iff]
  constructor
  · rintro ⟨⟨v, m⟩, h1, h2⟩
    dsimp only at h2
    split at h2
    · cases h2; exact h1
    · cases h2; exact h1
    · cases h2
  · intro h
    obtain ⟨k, m⟩ := z
    cases k with
    | zero => exact ⟨_, h, rfl⟩
    | succ k => exact ⟨_, h, rfl⟩
/-! guards and writes -/
/-- a row that the law has made holds place i -/
def xir (m : xmm) (k : Nat) (i : Int32) : Bool := Nat.ble 144 k && Nat.blt (xsg k) (xctm m) && (decide (0 ≤ i) && Nat.blt i.toNatClampNeg (m.1 1996 k).toNatClampNeg)
/-- a new row of n ints -/
def xwn (m : xmm) (n : Nat) : xmm := (fun a b => if a = xctm m - 1 then 0 else if a = 1996 ∧ b = xctm m - 1 then Int32.ofNat n else if a = 1995 then Int32.ofNat (xctm m - 144) else m.1 a b, fun a b => if a = xctm m - 1 then 0 else m.2 a b)
def xgd {α : Type} (b : Bool) (o : Option α) : Option α := bif b then o else none
def xgr {α : Type} (r : Nat) (f : Nat → Option α) : Option α := match r with
  | 0 => none
  | k + 1 => f k
def xinb (n : Nat) (i : Int32) : Bool := decide (0 ≤ i) && Nat.blt i.toNatClampNeg n
def xia (t k : Nat) (i : Int32) : Bool := Nat.beq (xkd k).1 t && xinb (xkd k).2 i
def xob (k ci : Nat) : Bool := Nat.beq (xkd k).1 0 && Nat.beq (xkd k).2 ci
def xz01 (x : Int32) : Bool := x == 0 || x == 1
def xwi (m : xmm) (k i : Nat) (v : Int32) : xmm := (fun a b => if a = k ∧ b = i then v else m.1 a b, m.2)
def xwj (m : xmm) (k i : Nat) (v : Int64) : xmm := (m.1, fun a b => if a = k ∧ b = i then v else m.2 a b)
theorem xgd_some {α : Type} {b : Bool} {o : Option α} {z : α} (h : xgd b o = some z) : b = true ∧ o = some z := by
  cases b with
  | true => exact ⟨rfl, h⟩
  | false => cases h
theorem xgr_some {α : Type} {r : Nat} {f : Nat → Option α} {z : α} (h : xgr r f = some z) : ∃ k, r = k + 1 ∧ f k = some z := by
  cases r with
  | zero => cases h
  | succ k => exact ⟨k, rfl, h⟩
theorem xbd_some {α β : Type} {o : Option α} {f : α → Option β} {z : β} (h : o.bind f = some z) : ∃ a, o = some a ∧ f a = some z := Option.bind_eq_some_iff.mp h
/-! one step -/
theorem xkd_own {k t n : Nat} (h : xkd k = (t, n)) (ht : t < 9) : k < xK0 := xkd_lt h ht
theorem xT_go {cc ss i rk pc : Nat} {l : xL} {st : List Value} {m : xmm} {z : xZ} {pc' : Nat} {l' : xL} {st' : List Value} {m' : xmm} (h : xTc cc ss i rk pc' l' st' m' z) (ha : ∀ M, xag M m → ∃ M', xag M' m' ∧ xact (i, rk, pc, l, st, M, cc, ss) = some (.inr (.inl (pc', l', st', M', cc, ss)))) : xTc cc ss i rk pc l st m z := by
  intro M hM
  obtain ⟨M1, h1, h2⟩ := ha M hM
  obtain ⟨n, M', h3, h4⟩ := h M1 h1
  refine ⟨n + 1, M', ?_, h4⟩
  show xF (xex n) _ = _
  unfold xF
  rw [h2]
  exact h3
theorem xact_of {cc ss i rk pc n : Nat} {l : xL} {st : List Value} {M : xM} {op : Instr} (hop : xop i pc = some (op, n)) (hn : (Nat.beq (xsz op) 0 || Nat.beq n (xsz op)) = true) : xact (i, rk, pc, l, st, M, cc, ss) = xdo i rk pc l st M cc ss op := by
  show (match xop i pc with
    | some (op, n) => bif Nat.beq (xsz op) 0 || Nat.beq n (xsz op) then xdo i rk pc l st M cc ss op else none
    | none => none) = _
  rw [hop]
  dsimp only
  rw [hn]
  rfl
theorem xnm_no {i q : Nat} {l : xL} (h : xcut i q = none) : xnm i q l = l := by unfold xnm; rw [h]
/-- a step that leaves the memory: the normal form of the next place is said by 'hl' -/
theorem xT_s {cc ss i rk pc n : Nat} {l : xL} {st : List Value} {m : xmm} {z : xZ} {op : Instr} {pc' : Nat} {l' l2 : xL} {st' : List Value} (hop : xop i pc = some (op, n)) (hn : (Nat.beq (xsz op) 0 || Nat.beq n (xsz op)) = true) (hd : ∀ M, xag M m → xdo i rk pc l st M cc ss op = xgo i rk pc' l' st' M cc ss) (hl : xnm i pc' l' = l2) (h : xTc cc ss i rk pc' l2 st' m z) : xTc cc ss i rk pc l st m z := by
  refine xT_go h fun M hM => ⟨M, hM, ?_⟩
  rw [xact_of hop hn, hd M hM]
  unfold xgo
  rw [hl]
theorem xT_w {cc ss i rk pc n : Nat} {l : xL} {st : List Value} {m m' : xmm} {z : xZ} {op : Instr} {pc' : Nat} {l' l2 : xL} {st' : List Value} (hop : xop i pc = some (op, n)) (hn : (Nat.beq (xsz op) 0 || Nat.beq n (xsz op)) = true) (hd : ∀ M, xag M m → ∃ M', xag M' m' ∧ xdo i rk pc l st M cc ss op = xgo i rk pc' l' st' M' cc ss) (hl : xnm i pc' l' = l2) (h : xTc cc ss i rk pc' l2 st' m' z) : xTc cc ss i rk pc l st m z := by
  refine xT_go h fun M hM => ?_
  obtain ⟨M', h1, h2⟩ := hd M hM
  refine ⟨M', h1, ?_⟩
  rw [xact_of hop hn, h2]
  unfold xgo
  rw [hl]
