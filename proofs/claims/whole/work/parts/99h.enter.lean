/-! the law's entry: to its loop -/
theorem zst {n i rk pc : Nat} {l : xL} {st : List Value} {M : xM} {c s : Nat} {q : xK} {r : xR} (h : xact (i, rk, pc, l, st, M, c, s) = some (.inr (.inl q))) (hr : xex n (i, rk, q) = some r) : xex (n + 1) (i, rk, pc, l, st, M, c, s) = some r := by
  show xF (xex n) (i, rk, pc, l, st, M, c, s) = some r
  unfold xF
  rw [h]
  exact hr
theorem zsc {n i rk pc : Nat} {l : xL} {st : List Value} {M : xM} {c s : Nat} {a : Nat × List Value × xM} {k : xR → Option xK} {q : xK} {r1 r : xR} (h : xact (i, rk, pc, l, st, M, c, s) = some (.inr (.inr (a, k)))) (ho : xokc a.1 a.2.1 = true) (h1 : xex n (xini a) = some r1) (hk : xrok (xrt a.1) r1.1 = true) (h2 : k r1 = some q) (hr : xex n (i, rk, q) = some r) : xex (n + 1) (i, rk, pc, l, st, M, c, s) = some r := by
  show xF (xex n) (i, rk, pc, l, st, M, c, s) = some r
  unfold xF
  rw [h]
  show (bif xokc a.1 a.2.1 then (xex n (xini a)).bind fun r => bif xrok (xrt a.1) r.1 then (k r).bind fun q => xex n (i, rk, q) else none else none) = some r
  rw [ho, h1]
  show (bif xrok (xrt a.1) r1.1 then (k r1).bind fun q => xex n (i, rk, q) else none) = some r
  rw [hk, h2]
  exact hr
theorem zl_op {pc n : Nat} {rk : Nat} {l : xL} {st : List Value} {M : xM} {c s : Nat} {op : Instr} (h : xop 266 pc = some (op, n)) (h2 : (Nat.beq (xsz op) 0 || Nat.beq n (xsz op)) = true) : xact (266, rk, pc, l, st, M, c, s) = xdo 266 rk pc l st M c s op := by
  show (match xop 266 pc with
    | some (op, n) => bif Nat.beq (xsz op) 0 || Nat.beq n (xsz op) then xdo 266 rk pc l st M c s op else none
    | none => none) = _
  rw [h]
  show (bif Nat.beq (xsz op) 0 || Nat.beq n (xsz op) then xdo 266 rk pc l st M c s op else none) = _
  rw [h2]
  rfl
theorem zl_new {pc q ci rk : Nat} {l l2 : xL} {st : List Value} {M : xM} {c s : Nat} (h : xop 266 pc = some (.new q, 3)) (hn : xnw (xow 266) q = some ci) (hg : xkd M.2.2.2 = (0, ci) ∧ c + 1 ≤ xmc 266 ∧ s + xnsl ci ≤ xms 266) (hl : xnm 266 (pc + 3) l = l2) : xact (266, rk, pc, l, st, M, c, s) = some (.inr (.inl (pc + 3, l2, .ref M.2.2.2 :: st, xpush M, c + 1, s + xnsl ci))) := by
  rw [zl_op h rfl]
  show (match xnw (xow 266) q with
    | some ci => if xkd M.2.2.2 = (0, ci) ∧ c + 1 ≤ xmc 266 ∧ s + xnsl ci ≤ xms 266 then xgo 266 rk (pc + 3) l (.ref M.2.2.2 :: st) (xpush M) (c + 1) (s + xnsl ci) else none
    | none => none) = _
  rw [hn]
  show (if xkd M.2.2.2 = (0, ci) ∧ c + 1 ≤ xmc 266 ∧ s + xnsl ci ≤ xms 266 then xgo 266 rk (pc + 3) l (.ref M.2.2.2 :: st) (xpush M) (c + 1) (s + xnsl ci) else none) = _
  rw [if_pos hg]
  unfold xgo
  rw [hl]
theorem zl_dup {pc k rk : Nat} {l l2 : xL} {st : List Value} {M : xM} {c s : Nat} (h : xop 266 pc = some (.dup, 1)) (hl : xnm 266 (pc + 1) l = l2) : xact (266, rk, pc, l, .ref k :: st, M, c, s) = some (.inr (.inl (pc + 1, l2, .ref k :: .ref k :: st, M, c, s))) := by
  rw [zl_op h rfl]
  show (if (1 : Nat) = 1 then xgo 266 rk (pc + 1) l (.ref k :: .ref k :: st) M c s else none) = _
  rw [if_pos rfl]
  unfold xgo
  rw [hl]
theorem zl_astore {pc k rk : Nat} {i : Fin 4} {l l2 : xL} {st : List Value} {M : xM} {c s : Nat} (h : xop 266 pc = some (.astore_n i, 1)) (hg : (i : Nat) < xml 266 ∧ ¬ k = 1999) (hl : xnm 266 (pc + 1) (xst l i (.ref k)) = l2) : xact (266, rk, pc, l, .ref k :: st, M, c, s) = some (.inr (.inl (pc + 1, l2, st, M, c, s))) := by
  rw [zl_op h rfl]
  show (if (i : Nat) < xml 266 ∧ ¬ k = 1999 then xgo 266 rk (pc + 1) (xst l i (.ref k)) st M c s else none) = _
  rw [if_pos hg]
  unfold xgo
  rw [hl]
theorem zl_istore {pc rk : Nat} {x : Int32} {i : Fin 4} {l l2 : xL} {st : List Value} {M : xM} {c s : Nat} (h : xop 266 pc = some (.istore_n i, 1)) (hg : (i : Nat) < xml 266) (hl : xnm 266 (pc + 1) (xst l i (.int x)) = l2) : xact (266, rk, pc, l, .int x :: st, M, c, s) = some (.inr (.inl (pc + 1, l2, st, M, c, s))) := by
  rw [zl_op h rfl]
  show (if (i : Nat) < xml 266 then xgo 266 rk (pc + 1) (xst l i (.int x)) st M c s else none) = _
  rw [if_pos hg]
  unfold xgo
  rw [hl]
theorem zl_iconst {pc rk : Nat} {v : Int} {l l2 : xL} {st : List Value} {M : xM} {c s : Nat} (h : xop 266 pc = some (.iconst v, 1)) (hl : xnm 266 (pc + 1) l = l2) : xact (266, rk, pc, l, st, M, c, s) = some (.inr (.inl (pc + 1, l2, .int (Int32.ofInt v) :: st, M, c, s))) := by
  rw [zl_op h rfl]
  show xgo 266 rk (pc + 1) l (.int (Int32.ofInt v) :: st) M c s = _
  unfold xgo
  rw [hl]
theorem zl_init {pc q j ns k rk : Nat} {l : xL} {st : List Value} {M : xM} {c s : Nat} (h : xop 266 pc = some (.invokespecial q, 3)) (ho : xoi (xow 266) q = false) (hj : xcl (xow 266) q = some (j, ns)) (hk : xki j = 2) (hna : xna j = 1) (h9 : ¬ k = 1999) (hg : xrk j [.ref k] < rk ∧ xcat st ≤ 8 ∧ c + xmc j ≤ xmc 266 ∧ s + xms j ≤ xms 266) : xact (266, rk, pc, l, .ref k :: st, M, c, s) = some (.inr (.inr ((j, [.ref k], M), fun r => some (pc + 3, xnm 266 (pc + 3) l, r.1.toList ++ st, r.2, c + xmc j, s + xms j)))) := by
  rw [zl_op h rfl]
  show (if xoi (xow 266) q then (if k = 1999 ∨ rk = 0 ∨ 8 < xcat st then none else xgo 266 rk (pc + 3) l st M c s) else xinv 2 266 rk pc q l (.ref k :: st) M c s) = _
  rw [ho, if_neg Bool.false_ne_true]
  unfold xinv
  rw [hj]
  show (if xki j = 2 then (if (2 : Nat) = 0 then (if xna j ≤ (Value.ref k :: st).length then xcall 266 rk pc l ((Value.ref k :: st).take (xna j)).reverse ((Value.ref k :: st).drop (xna j)) M c s j else none) else match ((Value.ref k :: st).take (xna j)).reverse with
    | .ref k' :: vs => if xna j ≤ (Value.ref k :: st).length ∧ ¬ k' = 1999 ∧ ((2 : Nat) = 2 ∨ xrcv M k' (xow j)) then xcall 266 rk pc l (.ref k' :: vs) ((Value.ref k :: st).drop (xna j)) M c s j else none
    | _ => none) else none) = _
  rw [if_pos hk, if_neg (show ¬ (2 : Nat) = 0 by decide), hna]
  show (if 1 ≤ (Value.ref k :: st).length ∧ ¬ k = 1999 ∧ ((2 : Nat) = 2 ∨ xrcv M k (xow j)) then xcall 266 rk pc l [.ref k] st M c s j else none) = _
  rw [if_pos ⟨Nat.succ_le_succ (Nat.zero_le _), h9, Or.inl rfl⟩]
  unfold xcall
  rw [if_pos hg]
