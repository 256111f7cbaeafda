/-! the law's entry: its first row, the script's ints in it, a new object -/
theorem zst {n i rk pc : Nat} {l : xL} {st : List Value} {M : xM} {c s : Nat} {q : xK} {r : xR} (h : xact (i, rk, pc, l, st, M, c, s) = some (.inr (.inl q))) (hr : xex n (i, rk, q) = some r) : xex (n + 1) (i, rk, pc, l, st, M, c, s) = some r := by
  show xF (xex n) (i, rk, pc, l, st, M, c, s) = some r
  unfold xF
  rw [h]
  exact hr
theorem zsc {n i rk pc : Nat} {l : xL} {st : List Value} {M : xM} {c s : Nat} {a : Nat × List Value × xM} {k : xR → Option xK} {q : xK} {r1 r : xR} (h : xact (i, rk, pc, l, st, M, c, s) = some (.inr (.inr (a, k)))) (ho : xokc a.1 a.2.1 = true) (h1 : xex n (xini a) = some r1) (hk : xrok (xrt a.1) r1.1 = true) (h2 : k r1 = some q) (hr : xex n (i, rk, q) = some r) : xex (n + 1) (i, rk, pc, l, st, M, c, s) = some r := by
  show xF (xex n) (i, rk, pc, l, st, M, c, s) = some r
  unfold xF
  rw [h]
  show (bif xokc a.1 a.2.1 then (xex n (xini a)).bind fun r => bif xrok (xrt a.1) r.1 then (k r).bind fun q => xex n (i, rk, q) else none else none) = some r
  rw [ho, h1]
  show (bif xrok (xrt a.1) r1.1 then (k r1).bind fun q => xex n (i, rk, q) else none) = some r
  rw [hk, h2]
  exact hr
theorem zl_op {pc n : Nat} {rk : Nat} {l : xL} {st : List Value} {M : xM} {c s : Nat} {op : Instr} (h : xop 171 pc = some (op, n)) (h2 : (Nat.beq (xsz op) 0 || Nat.beq n (xsz op)) = true) : xact (171, rk, pc, l, st, M, c, s) = xdo 171 rk pc l st M c s op := by
  show (match xop 171 pc with
    | some (op, n) => bif Nat.beq (xsz op) 0 || Nat.beq n (xsz op) then xdo 171 rk pc l st M c s op else none
    | none => none) = _
  rw [h]
  show (bif Nat.beq (xsz op) 0 || Nat.beq n (xsz op) then xdo 171 rk pc l st M c s op else none) = _
  rw [h2]
  rfl
theorem zl_new {pc q ci rk : Nat} {l l2 : xL} {st : List Value} {M : xM} {c s : Nat} (h : xop 171 pc = some (.new q, 3)) (hn : xnw (xow 171) q = some ci) (hg : xkd (xnu M.2.2.2) = (0, ci) ∧ c + 1 ≤ xmc 171 ∧ s + xnsl ci ≤ xms 171) (hl : xnm 171 (pc + 3) l = l2) : xact (171, rk, pc, l, st, M, c, s) = some (.inr (.inl (pc + 3, l2, .ref (xnu M.2.2.2) :: st, xpush M 0, c + 1, s + xnsl ci))) := by
  rw [zl_op h rfl]
  show (match xnw (xow 171) q with
    | some ci => if xkd (xnu M.2.2.2) = (0, ci) ∧ c + 1 ≤ xmc 171 ∧ s + xnsl ci ≤ xms 171 then xgo 171 rk (pc + 3) l (.ref (xnu M.2.2.2) :: st) (xpush M 0) (c + 1) (s + xnsl ci) else none
    | none => none) = _
  rw [hn]
  show (if xkd (xnu M.2.2.2) = (0, ci) ∧ c + 1 ≤ xmc 171 ∧ s + xnsl ci ≤ xms 171 then xgo 171 rk (pc + 3) l (.ref (xnu M.2.2.2) :: st) (xpush M 0) (c + 1) (s + xnsl ci) else none) = _
  rw [if_pos hg]
  unfold xgo
  rw [hl]
theorem zl_init {pc q j ns k rk : Nat} {l : xL} {st : List Value} {M : xM} {c s : Nat} (h : xop 171 pc = some (.invokespecial q, 3)) (ho : xoi (xow 171) q = false) (hj : xcl (xow 171) q = some (j, ns)) (hk : xki j = 2) (hna : xna j = 1) (h9 : ¬ k = 1999) (hg : xrk j [.ref k] < rk ∧ xcat st ≤ 8 ∧ c + xmc j ≤ xmc 171 ∧ s + xms j ≤ xms 171) : xact (171, rk, pc, l, .ref k :: st, M, c, s) = some (.inr (.inr ((j, [.ref k], M), fun r => some (pc + 3, xnm 171 (pc + 3) l, r.1.toList ++ st, r.2, c + xmc j, s + xms j)))) := by
  rw [zl_op h rfl]
  show (if xoi (xow 171) q then (if k = 1999 ∨ rk = 0 ∨ 8 < xcat st then none else xgo 171 rk (pc + 3) l st M c s) else xinv 2 171 rk pc q l (.ref k :: st) M c s) = _
  rw [ho, if_neg Bool.false_ne_true]
  unfold xinv
  rw [hj]
  show (if xki j = 2 then (if (2 : Nat) = 0 then (if xna j ≤ (Value.ref k :: st).length then xcall 171 rk pc l ((Value.ref k :: st).take (xna j)).reverse ((Value.ref k :: st).drop (xna j)) M c s j else none) else match ((Value.ref k :: st).take (xna j)).reverse with
    | .ref k' :: vs => if xna j ≤ (Value.ref k :: st).length ∧ ¬ k' = 1999 ∧ ((2 : Nat) = 2 ∨ xrcv M k' (xow j)) then xcall 171 rk pc l (.ref k' :: vs) ((Value.ref k :: st).drop (xna j)) M c s j else none
    | _ => none) else none) = _
  rw [if_pos hk, if_neg (show ¬ (2 : Nat) = 0 by decide), hna]
  show (if 1 ≤ (Value.ref k :: st).length ∧ ¬ k = 1999 ∧ ((2 : Nat) = 2 ∨ xrcv M k (xow j)) then xcall 171 rk pc l [.ref k] st M c s j else none) = _
  rw [if_pos ⟨Nat.succ_le_succ (Nat.zero_le _), h9, Or.inl rfl⟩]
  unfold xcall
  rw [if_pos hg]
/-- the law comes to its end with 1 from here -/
def zG (g : xG) : Prop := ∃ n M', xex n g = some (some (.int 1), M')
theorem zG_s {i rk pc : Nat} {l : xL} {st : List Value} {M : xM} {c s : Nat} {q : xK} (h : xact (i, rk, pc, l, st, M, c, s) = some (.inr (.inl q))) (hr : zG (i, rk, q)) : zG (i, rk, pc, l, st, M, c, s) := by
  obtain ⟨n, M', e⟩ := hr
  exact ⟨n + 1, M', zst h e⟩
theorem zG_c {i rk pc : Nat} {l : xL} {st : List Value} {M : xM} {c s : Nat} {a : Nat × List Value × xM} {k : xR → Option xK} {q : xK} {r1 : xR} (h : xact (i, rk, pc, l, st, M, c, s) = some (.inr (.inr (a, k)))) (ho : xokc a.1 a.2.1 = true) (h1 : xex 1000 (xini a) = some r1) (hk : xrok (xrt a.1) r1.1 = true) (h2 : k r1 = some q) (hr : zG (i, rk, q)) : zG (i, rk, pc, l, st, M, c, s) := by
  obtain ⟨n, M', e⟩ := hr
  exact ⟨max n 1000 + 1, M', zsc h ho (xex_le h1 (Nat.le_max_right n 1000)) hk h2 (xex_le e (Nat.le_max_left n 1000))⟩
theorem zG_o {pc n rk pc' : Nat} {l l1 l2 : xL} {st st' : List Value} {M M' : xM} {c s c' s' : Nat} {op : Instr} (h : xop 171 pc = some (op, n)) (h2 : (Nat.beq (xsz op) 0 || Nat.beq n (xsz op)) = true) (h3 : xdo 171 rk pc l st M c s op = xgo 171 rk pc' l1 st' M' c' s') (hl : xnm 171 pc' l1 = l2) (hr : zG (171, rk, pc', l2, st', M', c', s')) : zG (171, rk, pc, l, st, M, c, s) := by
  refine zG_s (q := (pc', l2, st', M', c', s')) ?_ hr
  rw [zl_op h h2, h3]
  unfold xgo
  rw [hl]
def zW (r : Nat → Int32) (L : Nat) (xs : Nat → Int32) : xM := (fun k i => if k = 999 then r i else if k = 1996 ∧ i = 999 then 20 else if k = 1998 then xs i else if k = 1997 then nI L else 0, fun _ _ => 0, fun _ _ => 0, 1)
def zbs (r : Nat → Int32) (L : Nat) (xs : Nat → Int32) (k i : Nat) : Int32 := if k = 999 then r i else if k = 1996 ∧ i = 999 then 20 else if k = 1998 then xs i else if k = 1997 then nI L else 0
def zr (xs : Nat → Int32) (k i : Nat) : Int32 := if i < k then xs i else 0
section
variable {L : Nat} {xs r : Nat → Int32}
theorem zr_0 : zr xs 0 = fun _ => 0 := funext fun i => if_neg (Nat.not_lt_zero i)
theorem zW_0 : xpush (xM0 L xs) 20 = zW (fun _ => 0) L xs := by
  refine Prod.ext (funext fun a => funext fun e => ?_) (Prod.ext (funext fun a => funext fun e => ?_) (Prod.ext (funext fun a => funext fun e => ?_) rfl))
  · show (if a = 999 then 0 else if a = 1996 ∧ e = 999 then Int32.ofNat 20 else if a = 1995 then Int32.ofNat (0 - 144) else if a = 1998 then xs e else if a = 1997 then nI L else 0) = (if a = 999 then 0 else if a = 1996 ∧ e = 999 then 20 else if a = 1998 then xs e else if a = 1997 then nI L else 0)
    by_cases h : a = 1995
    · rw [if_neg (show ¬ a = 999 by omega), if_neg (show ¬ a = 999 by omega), if_neg (show ¬ (a = 1996 ∧ e = 999) from fun t => by omega), if_neg (show ¬ (a = 1996 ∧ e = 999) from fun t => by omega), if_pos h, if_neg (show ¬ a = 1998 by omega), if_neg (show ¬ a = 1997 by omega)]
      rfl
    · rw [if_neg h]
      rfl
  · exact ite_self _
  · exact ite_self _
theorem zW_s {k : Nat} {v : Int32} : xsi (zW r L xs) 999 k v = zW (fun i => if i = k then v else r i) L xs := by
  refine Prod.ext (funext fun a => funext fun e => ?_) rfl
  show (if a = 999 ∧ e = k then v else if a = 999 then r e else _) = (if a = 999 then (if e = k then v else r e) else _)
  by_cases h : a = 999
  · by_cases h2 : e = k
    · rw [if_pos ⟨h, h2⟩, if_pos h, if_pos h2]
    · rw [if_neg (fun t => h2 t.2), if_pos h, if_pos h, if_neg h2]
  · rw [if_neg (fun t => h t.1), if_neg h, if_neg h]
theorem zW_n : xpush (zW r L xs) 0 = zpt (zbs r L xs) zN0 := by
  refine Prod.ext (funext fun a => funext fun e => ?_) (Prod.ext (funext fun a => funext fun e => ?_) (Prod.ext (funext fun a => funext fun e => ?_) rfl))
  · show (if a = 0 then 0 else if a = 1996 ∧ e = 0 then Int32.ofNat 0 else if a = 1995 then Int32.ofNat (1 - 144) else zbs r L xs a e) = if 900 ≤ a ∧ ¬ a = 1995 ∧ (¬ a = 1996 ∨ e = 999) then zbs r L xs a e else 0
    by_cases h : 900 ≤ a ∧ ¬ a = 1995 ∧ (¬ a = 1996 ∨ e = 999)
    · rw [if_pos h, if_neg (by omega), if_neg (fun t => by omega), if_neg (by omega)]
    · rw [if_neg h]
      by_cases h0 : a = 0
      · rw [if_pos h0]
      · rw [if_neg h0]
        by_cases h1 : a = 1996 ∧ e = 0
        · rw [if_pos h1]; rfl
        · rw [if_neg h1]
          by_cases h2 : a = 1995
          · rw [if_pos h2]; rfl
          · rw [if_neg h2]
            unfold zbs
            rw [if_neg (by omega), if_neg (fun t => by omega), if_neg (by omega), if_neg (by omega)]
  · exact ite_self _
  · exact ite_self _
theorem zW_b : Nat.blt (xsg 1998) (zW r L xs).2.2.2 = false := by
  show Nat.blt (xsg 1998) 1 = false
  decide
theorem zW_7 : (zW r L xs).1 1997 0 = nI L := by
  show (if 1997 = 999 then r 0 else if 1997 = 1996 ∧ 0 = 999 then 20 else if 1997 = 1998 then xs 0 else if 1997 = 1997 then nI L else 0) = nI L
  rw [if_neg (by decide), if_neg (by decide), if_neg (by decide), if_pos rfl]
theorem zW_8 {k : Nat} : (zW r L xs).1 1998 k = xs k := by
  show (if 1998 = 999 then r k else if 1998 = 1996 ∧ k = 999 then 20 else if 1998 = 1998 then xs k else if 1998 = 1997 then nI L else 0) = xs k
  rw [if_neg (by decide), if_neg (fun t => absurd t.1 (by decide)), if_pos rfl]
theorem zW_6 : (zW r L xs).1 1996 999 = 20 := by
  show (if 1996 = 999 then r 999 else if 1996 = 1996 ∧ 999 = 999 then 20 else if 1996 = 1998 then xs 999 else if 1996 = 1997 then nI L else 0) = 20
  rw [if_neg (by decide), if_pos ⟨rfl, rfl⟩]
theorem zW_len : xlen (zW r L xs) 1998 = some (nI L) := by
  unfold xlen
  rw [zW_b, Bool.false_and, if_neg Bool.false_ne_true, if_pos rfl, zW_7]
theorem zW_ld {k : Nat} (hk : k < L) (hL : L ≤ 260) : xald (zW r L xs) 1998 (nI k) = some (xs k) := by
  unfold xald
  have e : xin1 (zW r L xs) 1 1998 (nI k) = false := by
    unfold xin1
    rw [zW_b, Bool.and_false, Bool.false_and, Bool.false_and]
  rw [e, if_neg Bool.false_ne_true, zW_7, yI_cl (by omega), yI_cl (by omega), if_pos ⟨rfl, yI_zle (by omega), hk⟩, zW_8]
theorem zW_in {k : Nat} (hk : k < 20) : xin1 (zW r L xs) 1 999 (nI k) = true := by
  have e : xkM (zW r L xs) 999 = (1, 20) := by
    unfold xkM
    rw [show Nat.blt 999 144 = false from rfl, cond_false, zW_6]
    rfl
  unfold xin1
  rw [e, yI_cl (by omega), decide_eq_true (yI_zle (by omega : k < 2 ^ 31)), show Nat.blt (xsg 999) (zW r L xs).2.2.2 = true from rfl, show Nat.blt k ((1, 20) : Nat × Nat).2 = true from Nat.ble_eq_true_of_le hk]
  rfl
theorem z20 : (Int8.ofInt 20).toInt32 = nI 20 := by decide
abbrev zL (x : Int32) : xL := [(0, .ref 1998), (1, .ref 999), (2, .int x)]
theorem zG_p {pc n pc' : Nat} {x : Int32} {st st' : List Value} {M : xM} {op : Instr} (h : xop 171 pc = some (op, n)) (h2 : (Nat.beq (xsz op) 0 || Nat.beq n (xsz op)) = true) (h3 : xdo 171 20 pc (zL x) st M 1 20 op = xgo 171 20 pc' (zL x) st' M 1 20) (hl : xnm 171 pc' (zL x) = zL x) (hr : zG (171, 20, pc', zL x, st', M, 1, 20)) : zG (171, 20, pc, zL x, st, M, 1, 20) := zG_o h h2 h3 hl hr
theorem zic1 {l : xL} {st : List Value} {M : xM} {c s : Nat} {x y : Int32} : xdo 171 20 10 l (.int y :: .int x :: st) M c s (.if_icmp .ge 21) = if y ≤ x then xgo 171 20 31 l st M c s else xgo 171 20 13 l st M c s := rfl
theorem zic2 {l : xL} {st : List Value} {M : xM} {c s : Nat} {x y : Int32} : xdo 171 20 16 l (.int y :: .int x :: st) M c s (.if_icmp .ge 15) = if y ≤ x then xgo 171 20 31 l st M c s else xgo 171 20 19 l st M c s := rfl
theorem zal {l : xL} {st : List Value} {M : xM} {c s : Nat} : xdo 171 20 15 l (.ref 1998 :: st) M c s .arraylength = match xlen M 1998 with
  | some v => xgo 171 20 16 l (.int v :: st) M c s
  | none => none := rfl
theorem zia {l : xL} {st : List Value} {M : xM} {c s : Nat} {x : Int32} : xdo 171 20 23 l (.int x :: .ref 1998 :: st) M c s .iaload = match xald M 1998 x with
  | some v => xgo 171 20 24 l (.int v :: st) M c s
  | none => none := rfl
theorem zis {l : xL} {st : List Value} {M : xM} {c s : Nat} {x v : Int32} : xdo 171 20 24 l (.int v :: .int x :: .ref 999 :: st) M c s .iastore = if xin1 M 1 999 x then xgo 171 20 25 l st (xsi M 999 x.toNatClampNeg v) c s else none := rfl
theorem zii {st : List Value} {M : xM} {c s : Nat} {x : Int32} : xdo 171 20 25 (zL x) st M c s (.iinc 2 1) = if 2 < xml 171 then xgo 171 20 28 [(2, .int (x + Int32.ofInt 1)), (0, .ref 1998), (1, .ref 999)] st M c s else none := rfl
theorem zr_s {k : Nat} : (fun i => if i = k then xs k else zr xs k i) = zr xs (k + 1) := funext fun i => by
  unfold zr
  by_cases h : i = k
  · rw [if_pos h, if_pos (by omega), h]
  · rw [if_neg h]
    by_cases h2 : i < k
    · rw [if_pos h2, if_pos (by omega)]
    · rw [if_neg h2, if_neg (by omega)]
theorem zloop (hL : L ≤ 260) (nx : ∀ k, k ≤ 20 → zG (171, 20, 31, zL (nI k), [], zW (zr xs k) L xs, 1, 20)) : ∀ d k, k + d = 20 → zG (171, 20, 7, zL (nI k), [], zW (zr xs k) L xs, 1, 20) := by
  intro d
  induction d with
  | zero =>
    intro k hk
    have e : k = 20 := by omega
    subst e
    refine zG_p (op := .iload_n 2) (n := 1) (pc' := 8) (st' := [.int (nI 20)]) rfl rfl rfl rfl ?_
    refine zG_p (op := .bipush 20) (n := 2) (pc' := 10) (st' := [.int (Int8.ofInt 20).toInt32, .int (nI 20)]) rfl rfl rfl rfl ?_
    rw [z20]
    exact zG_p (op := .if_icmp .ge 21) (n := 3) (pc' := 31) (st' := []) rfl rfl (zic1.trans (if_pos (Int32.le_refl _))) rfl (nx 20 (Nat.le_refl 20))
  | succ d ih =>
    intro k hk
    refine zG_p (op := .iload_n 2) (n := 1) (pc' := 8) (st' := [.int (nI k)]) rfl rfl rfl rfl ?_
    refine zG_p (op := .bipush 20) (n := 2) (pc' := 10) (st' := [.int (Int8.ofInt 20).toInt32, .int (nI k)]) rfl rfl rfl rfl ?_
    rw [z20]
    refine zG_p (op := .if_icmp .ge 21) (n := 3) (pc' := 13) (st' := []) rfl rfl (zic1.trans (if_neg (nI_ge (by omega) (by decide)))) rfl ?_
    refine zG_p (op := .iload_n 2) (n := 1) (pc' := 14) (st' := [.int (nI k)]) rfl rfl rfl rfl ?_
    refine zG_p (op := .aload_n 0) (n := 1) (pc' := 15) (st' := [.ref 1998, .int (nI k)]) rfl rfl rfl rfl ?_
    refine zG_p (op := .arraylength) (n := 1) (pc' := 16) (st' := [.int (nI L), .int (nI k)]) rfl rfl (zal.trans (by rw [zW_len])) rfl ?_
    by_cases hc : nI L ≤ nI k
    · exact zG_p (op := .if_icmp .ge 15) (n := 3) (pc' := 31) (st' := []) rfl rfl (zic2.trans (if_pos hc)) rfl (nx k (by omega))
    · have hkL : k < L := Nat.lt_of_not_le fun t => hc (nI_le t (by omega))
      refine zG_p (op := .if_icmp .ge 15) (n := 3) (pc' := 19) (st' := []) rfl rfl (zic2.trans (if_neg hc)) rfl ?_
      refine zG_p (op := .aload_n 1) (n := 1) (pc' := 20) (st' := [.ref 999]) rfl rfl rfl rfl ?_
      refine zG_p (op := .iload_n 2) (n := 1) (pc' := 21) (st' := [.int (nI k), .ref 999]) rfl rfl rfl rfl ?_
      refine zG_p (op := .aload_n 0) (n := 1) (pc' := 22) (st' := [.ref 1998, .int (nI k), .ref 999]) rfl rfl rfl rfl ?_
      refine zG_p (op := .iload_n 2) (n := 1) (pc' := 23) (st' := [.int (nI k), .ref 1998, .int (nI k), .ref 999]) rfl rfl rfl rfl ?_
      refine zG_p (op := .iaload) (n := 1) (pc' := 24) (st' := [.int (xs k), .int (nI k), .ref 999]) rfl rfl (zia.trans (by rw [zW_ld hkL hL])) rfl ?_
      refine zG_o (op := .iastore) (n := 1) (pc' := 25) (l2 := zL (nI k)) (st' := []) (M' := zW (zr xs (k + 1)) L xs) (c' := 1) (s' := 20) rfl rfl (zis.trans (by rw [if_pos (zW_in (by omega)), yI_cl (by omega), zW_s, zr_s])) rfl ?_
      refine zG_o (op := .iinc 2 1) (n := 3) (pc' := 28) (l2 := [(2, .int (nI (k + 1))), (0, .ref 1998), (1, .ref 999)]) (st' := []) (M' := zW (zr xs (k + 1)) L xs) (c' := 1) (s' := 20) rfl rfl (zii.trans (by rw [if_pos (by decide +kernel), show Int32.ofInt 1 = (1 : Int32) from rfl, nI_1])) rfl ?_
      exact zG_o (op := .goto (-21)) (n := 3) (pc' := 7) (l1 := [(2, .int (nI (k + 1))), (0, .ref 1998), (1, .ref 999)]) (l2 := zL (nI (k + 1))) (st' := []) (M' := zW (zr xs (k + 1)) L xs) (c' := 1) (s' := 20) rfl rfl rfl rfl (ih (k + 1) (by omega))
end
