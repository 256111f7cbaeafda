/-! one lemma an instruction: from the next place to this one. 'hl' says the locals' normal form at the next place. -/
theorem xneq {x y : Nat} (h : Nat.beq x y = false) : ¬ x = y := fun e => by rw [e, show Nat.beq y y = true from Nat.beq_refl y] at h; cases h
theorem xjp_t {i rk pc t c s : Nat} {off : Int} {l : xL} {st : List Value} {M : xM} (ht : (pc : Int) + off = (t : Int)) : xjp i rk pc off l st M c s = xgo i rk t l st M c s := by
  unfold xjp
  rw [ht]
theorem xbr_t {i rk pc t c s : Nat} {off : Int} {l : xL} {st : List Value} {M : xM} {b : Prop} {hb : Decidable b} (ht : (pc : Int) + off = (t : Int)) (q : b) : xbr i rk pc off l st M c s b = xgo i rk t l st M c s := by
  unfold xbr
  rw [ht]
  exact if_pos q
theorem xbr_f {i rk pc t c s : Nat} {off : Int} {l : xL} {st : List Value} {M : xM} {b : Prop} {hb : Decidable b} (ht : (pc : Int) + off = (t : Int)) (q : ¬ b) : xbr i rk pc off l st M c s b = xgo i rk (pc + 3) l st M c s := by
  unfold xbr
  rw [ht]
  exact if_neg q
theorem e_iconst {cc ss i rk pc : Nat} {l l2 : xL} {st : List Value} {m : xmm} {z : xZ} {v : Int} {x : Int32} (hop : xop i pc = some (.iconst v, 1)) (hv : Int32.ofInt v = x) (hl : xnm i (pc + 1) l = l2) (h : xTc cc ss i rk (pc + 1) l2 (.int x :: st) m z) : xTc cc ss i rk pc l (st) m z := xT_s hop rfl (fun _ _ => by rw [← hv]; rfl) hl h
theorem e_bipush {cc ss i rk pc : Nat} {l l2 : xL} {st : List Value} {m : xmm} {z : xZ} {v : Int} {x : Int32} (hop : xop i pc = some (.bipush v, 2)) (hv : (Int8.ofInt v).toInt32 = x) (hl : xnm i (pc + 2) l = l2) (h : xTc cc ss i rk (pc + 2) l2 (.int x :: st) m z) : xTc cc ss i rk pc l (st) m z := xT_s hop rfl (fun _ _ => by rw [← hv]; rfl) hl h
theorem e_sipush {cc ss i rk pc : Nat} {l l2 : xL} {st : List Value} {m : xmm} {z : xZ} {v : Int} {x : Int32} (hop : xop i pc = some (.sipush v, 3)) (hv : (Int16.ofInt v).toInt32 = x) (hl : xnm i (pc + 3) l = l2) (h : xTc cc ss i rk (pc + 3) l2 (.int x :: st) m z) : xTc cc ss i rk pc l (st) m z := xT_s hop rfl (fun _ _ => by rw [← hv]; rfl) hl h
theorem e_lconst {cc ss i rk pc : Nat} {l l2 : xL} {st : List Value} {m : xmm} {z : xZ} {v : Fin 2} {x : Int64} (hop : xop i pc = some (.lconst v, 1)) (hv : Int64.ofNat (v : Nat) = x) (hl : xnm i (pc + 1) l = l2) (h : xTc cc ss i rk (pc + 1) l2 (.long x :: st) m z) : xTc cc ss i rk pc l (st) m z := xT_s hop rfl (fun _ _ => by rw [← hv]; rfl) hl h
theorem e_null {cc ss i rk pc : Nat} {l l2 : xL} {st : List Value} {m : xmm} {z : xZ}  (hop : xop i pc = some (.aconst_null, 1)) (hl : xnm i (pc + 1) l = l2) (h : xTc cc ss i rk (pc + 1) l2 (.null :: st) m z) : xTc cc ss i rk pc l (st) m z := xT_s hop rfl (fun _ _ => rfl) hl h
theorem e_iload_n {cc ss i rk pc : Nat} {l l2 : xL} {st : List Value} {m : xmm} {z : xZ} {k : Fin 4} {x : Int32} (hop : xop i pc = some (.iload_n k, 1)) (hv : xlk l (k : Nat) = some (.int x)) (hl : xnm i (pc + 1) l = l2) (h : xTc cc ss i rk (pc + 1) l2 (.int x :: st) m z) : xTc cc ss i rk pc l (st) m z := xT_s hop rfl (fun M _ => by show (match xlk l (k : Nat) with | some (.int x) => xgo i rk (pc + 1) l (.int x :: st) M cc ss | _ => none) = _; rw [hv]) hl h
theorem e_iload {cc ss i rk pc : Nat} {l l2 : xL} {st : List Value} {m : xmm} {z : xZ} {k : Nat} {x : Int32} (hop : xop i pc = some (.iload k, 2)) (hv : xlk l k = some (.int x)) (hl : xnm i (pc + 2) l = l2) (h : xTc cc ss i rk (pc + 2) l2 (.int x :: st) m z) : xTc cc ss i rk pc l (st) m z := xT_s hop rfl (fun M _ => by show (match xlk l k with | some (.int x) => xgo i rk (pc + 2) l (.int x :: st) M cc ss | _ => none) = _; rw [hv]) hl h
theorem e_lload_n {cc ss i rk pc : Nat} {l l2 : xL} {st : List Value} {m : xmm} {z : xZ} {k : Fin 4} {x : Int64} (hop : xop i pc = some (.lload_n k, 1)) (hv : xlk l (k : Nat) = some (.long x)) (hl : xnm i (pc + 1) l = l2) (h : xTc cc ss i rk (pc + 1) l2 (.long x :: st) m z) : xTc cc ss i rk pc l (st) m z := xT_s hop rfl (fun M _ => by show (match xlk l (k : Nat) with | some (.long x) => xgo i rk (pc + 1) l (.long x :: st) M cc ss | _ => none) = _; rw [hv]) hl h
theorem e_lload {cc ss i rk pc : Nat} {l l2 : xL} {st : List Value} {m : xmm} {z : xZ} {k : Nat} {x : Int64} (hop : xop i pc = some (.lload k, 2)) (hv : xlk l k = some (.long x)) (hl : xnm i (pc + 2) l = l2) (h : xTc cc ss i rk (pc + 2) l2 (.long x :: st) m z) : xTc cc ss i rk pc l (st) m z := xT_s hop rfl (fun M _ => by show (match xlk l k with | some (.long x) => xgo i rk (pc + 2) l (.long x :: st) M cc ss | _ => none) = _; rw [hv]) hl h
theorem e_aload_n {cc ss i rk pc : Nat} {l l2 : xL} {st : List Value} {m : xmm} {z : xZ} {k : Fin 4} {x : Nat} (hop : xop i pc = some (.aload_n k, 1)) (hv : xlk l (k : Nat) = some (.ref x)) (hx : Nat.beq x 1999 = false) (hl : xnm i (pc + 1) l = l2) (h : xTc cc ss i rk (pc + 1) l2 (.ref x :: st) m z) : xTc cc ss i rk pc l (st) m z := xT_s hop rfl (fun M _ => by show (match xlk l (k : Nat) with | some (.ref x) => if x = 1999 then none else xgo i rk (pc + 1) l (.ref x :: st) M cc ss | some .null => xgo i rk (pc + 1) l (.null :: st) M cc ss | _ => none) = _; rw [hv]; exact if_neg (xneq hx)) hl h
theorem e_aload_nN {cc ss i rk pc : Nat} {l l2 : xL} {st : List Value} {m : xmm} {z : xZ} {k : Fin 4} (hop : xop i pc = some (.aload_n k, 1)) (hv : xlk l (k : Nat) = some .null) (hl : xnm i (pc + 1) l = l2) (h : xTc cc ss i rk (pc + 1) l2 (.null :: st) m z) : xTc cc ss i rk pc l (st) m z := xT_s hop rfl (fun M _ => by show (match xlk l (k : Nat) with | some (.ref x) => if x = 1999 then none else xgo i rk (pc + 1) l (.ref x :: st) M cc ss | some .null => xgo i rk (pc + 1) l (.null :: st) M cc ss | _ => none) = _; rw [hv]) hl h
theorem e_aload {cc ss i rk pc : Nat} {l l2 : xL} {st : List Value} {m : xmm} {z : xZ} {k : Nat} {x : Nat} (hop : xop i pc = some (.aload k, 2)) (hv : xlk l k = some (.ref x)) (hx : Nat.beq x 1999 = false) (hl : xnm i (pc + 2) l = l2) (h : xTc cc ss i rk (pc + 2) l2 (.ref x :: st) m z) : xTc cc ss i rk pc l (st) m z := xT_s hop rfl (fun M _ => by show (match xlk l k with | some (.ref x) => if x = 1999 then none else xgo i rk (pc + 2) l (.ref x :: st) M cc ss | some .null => xgo i rk (pc + 2) l (.null :: st) M cc ss | _ => none) = _; rw [hv]; exact if_neg (xneq hx)) hl h
theorem e_istore_n {cc ss i rk pc : Nat} {l l2 : xL} {st : List Value} {m : xmm} {z : xZ} {k : Fin 4} {x : Int32} (hop : xop i pc = some (.istore_n k, 1)) (hk : Nat.blt ((k : Nat)) (xml i) = true) (hl : xnm i (pc + 1) (xst l (k : Nat) (.int x)) = l2) (h : xTc cc ss i rk (pc + 1) l2 (st) m z) : xTc cc ss i rk pc l (.int x :: st) m z := xT_s hop rfl (fun _ _ => if_pos (Nat.le_of_ble_eq_true hk)) hl h
theorem e_istore {cc ss i rk pc : Nat} {l l2 : xL} {st : List Value} {m : xmm} {z : xZ} {k : Nat} {x : Int32} (hop : xop i pc = some (.istore k, 2)) (hk : Nat.blt (k) (xml i) = true) (hl : xnm i (pc + 2) (xst l k (.int x)) = l2) (h : xTc cc ss i rk (pc + 2) l2 (st) m z) : xTc cc ss i rk pc l (.int x :: st) m z := xT_s hop rfl (fun _ _ => if_pos (Nat.le_of_ble_eq_true hk)) hl h
theorem e_lstore_n {cc ss i rk pc : Nat} {l l2 : xL} {st : List Value} {m : xmm} {z : xZ} {k : Fin 4} {x : Int64} (hop : xop i pc = some (.lstore_n k, 1)) (hk : Nat.blt ((k : Nat) + 1) (xml i) = true) (hl : xnm i (pc + 1) (xst2 l (k : Nat) (.long x)) = l2) (h : xTc cc ss i rk (pc + 1) l2 (st) m z) : xTc cc ss i rk pc l (.long x :: st) m z := xT_s hop rfl (fun _ _ => if_pos (Nat.le_of_ble_eq_true hk)) hl h
theorem e_lstore {cc ss i rk pc : Nat} {l l2 : xL} {st : List Value} {m : xmm} {z : xZ} {k : Nat} {x : Int64} (hop : xop i pc = some (.lstore k, 2)) (hk : Nat.blt (k + 1) (xml i) = true) (hl : xnm i (pc + 2) (xst2 l k (.long x)) = l2) (h : xTc cc ss i rk (pc + 2) l2 (st) m z) : xTc cc ss i rk pc l (.long x :: st) m z := xT_s hop rfl (fun _ _ => if_pos (Nat.le_of_ble_eq_true hk)) hl h
theorem e_astore_n {cc ss i rk pc : Nat} {l l2 : xL} {st : List Value} {m : xmm} {z : xZ} {k : Fin 4} {x : Nat} (hop : xop i pc = some (.astore_n k, 1)) (hk : Nat.blt (k : Nat) (xml i) = true) (hx : Nat.beq x 1999 = false) (hl : xnm i (pc + 1) (xst l (k : Nat) (.ref x)) = l2) (h : xTc cc ss i rk (pc + 1) l2 (st) m z) : xTc cc ss i rk pc l (.ref x :: st) m z := xT_s hop rfl (fun _ _ => if_pos ⟨Nat.le_of_ble_eq_true hk, xneq hx⟩) hl h
theorem e_astore {cc ss i rk pc : Nat} {l l2 : xL} {st : List Value} {m : xmm} {z : xZ} {k : Nat} {x : Nat} (hop : xop i pc = some (.astore k, 2)) (hk : Nat.blt k (xml i) = true) (hx : Nat.beq x 1999 = false) (hl : xnm i (pc + 2) (xst l k (.ref x)) = l2) (h : xTc cc ss i rk (pc + 2) l2 (st) m z) : xTc cc ss i rk pc l (.ref x :: st) m z := xT_s hop rfl (fun _ _ => if_pos ⟨Nat.le_of_ble_eq_true hk, xneq hx⟩) hl h
theorem e_astore_nN {cc ss i rk pc : Nat} {l l2 : xL} {st : List Value} {m : xmm} {z : xZ} {k : Fin 4} (hop : xop i pc = some (.astore_n k, 1)) (hk : Nat.blt (k : Nat) (xml i) = true) (hl : xnm i (pc + 1) (xst l (k : Nat) .null) = l2) (h : xTc cc ss i rk (pc + 1) l2 (st) m z) : xTc cc ss i rk pc l (.null :: st) m z := xT_s hop rfl (fun _ _ => if_pos (Nat.le_of_ble_eq_true hk)) hl h
theorem e_iinc {cc ss i rk pc : Nat} {l l2 : xL} {st : List Value} {m : xmm} {z : xZ} {k : Nat} {v : Int} {x y : Int32} (hop : xop i pc = some (.iinc k v, 3)) (hv : xlk l k = some (.int x)) (hk : Nat.blt k (xml i) = true) (hy : Int32.ofInt v = y) (hl : xnm i (pc + 3) (xst l k (.int (x + y))) = l2) (h : xTc cc ss i rk (pc + 3) l2 (st) m z) : xTc cc ss i rk pc l (st) m z := xT_s hop rfl (fun M _ => by show (match xlk l k with | some (.int x) => if k < xml i then xgo i rk (pc + 3) (xst l k (.int (x + Int32.ofInt v))) st M cc ss else none | _ => none) = _; rw [hv]; exact (if_pos (Nat.le_of_ble_eq_true hk)).trans (by rw [hy])) hl h
theorem e_iadd {cc ss i rk pc : Nat} {l l2 : xL} {st : List Value} {m : xmm} {z : xZ} {x y : Int32} (hop : xop i pc = some (.iadd, 1)) (hl : xnm i (pc + 1) l = l2) (h : xTc cc ss i rk (pc + 1) l2 (.int (x + y) :: st) m z) : xTc cc ss i rk pc l (.int y :: .int x :: st) m z := xT_s hop rfl (fun _ _ => rfl) hl h
theorem e_isub {cc ss i rk pc : Nat} {l l2 : xL} {st : List Value} {m : xmm} {z : xZ} {x y : Int32} (hop : xop i pc = some (.isub, 1)) (hl : xnm i (pc + 1) l = l2) (h : xTc cc ss i rk (pc + 1) l2 (.int (x - y) :: st) m z) : xTc cc ss i rk pc l (.int y :: .int x :: st) m z := xT_s hop rfl (fun _ _ => rfl) hl h
theorem e_imul {cc ss i rk pc : Nat} {l l2 : xL} {st : List Value} {m : xmm} {z : xZ} {x y : Int32} (hop : xop i pc = some (.imul, 1)) (hl : xnm i (pc + 1) l = l2) (h : xTc cc ss i rk (pc + 1) l2 (.int (x * y) :: st) m z) : xTc cc ss i rk pc l (.int y :: .int x :: st) m z := xT_s hop rfl (fun _ _ => rfl) hl h
theorem e_iand {cc ss i rk pc : Nat} {l l2 : xL} {st : List Value} {m : xmm} {z : xZ} {x y : Int32} (hop : xop i pc = some (.iand, 1)) (hl : xnm i (pc + 1) l = l2) (h : xTc cc ss i rk (pc + 1) l2 (.int (x &&& y) :: st) m z) : xTc cc ss i rk pc l (.int y :: .int x :: st) m z := xT_s hop rfl (fun _ _ => rfl) hl h
theorem e_ior {cc ss i rk pc : Nat} {l l2 : xL} {st : List Value} {m : xmm} {z : xZ} {x y : Int32} (hop : xop i pc = some (.ior, 1)) (hl : xnm i (pc + 1) l = l2) (h : xTc cc ss i rk (pc + 1) l2 (.int (x ||| y) :: st) m z) : xTc cc ss i rk pc l (.int y :: .int x :: st) m z := xT_s hop rfl (fun _ _ => rfl) hl h
theorem e_ixor {cc ss i rk pc : Nat} {l l2 : xL} {st : List Value} {m : xmm} {z : xZ} {x y : Int32} (hop : xop i pc = some (.ixor, 1)) (hl : xnm i (pc + 1) l = l2) (h : xTc cc ss i rk (pc + 1) l2 (.int (x ^^^ y) :: st) m z) : xTc cc ss i rk pc l (.int y :: .int x :: st) m z := xT_s hop rfl (fun _ _ => rfl) hl h
theorem e_ishl {cc ss i rk pc : Nat} {l l2 : xL} {st : List Value} {m : xmm} {z : xZ} {x y : Int32} (hop : xop i pc = some (.ishl, 1)) (hl : xnm i (pc + 1) l = l2) (h : xTc cc ss i rk (pc + 1) l2 (.int (x <<< (y &&& 31)) :: st) m z) : xTc cc ss i rk pc l (.int y :: .int x :: st) m z := xT_s hop rfl (fun _ _ => rfl) hl h
theorem e_ishr {cc ss i rk pc : Nat} {l l2 : xL} {st : List Value} {m : xmm} {z : xZ} {x y : Int32} (hop : xop i pc = some (.ishr, 1)) (hl : xnm i (pc + 1) l = l2) (h : xTc cc ss i rk (pc + 1) l2 (.int (x >>> (y &&& 31)) :: st) m z) : xTc cc ss i rk pc l (.int y :: .int x :: st) m z := xT_s hop rfl (fun _ _ => rfl) hl h
theorem e_iushr {cc ss i rk pc : Nat} {l l2 : xL} {st : List Value} {m : xmm} {z : xZ} {x y : Int32} (hop : xop i pc = some (.iushr, 1)) (hl : xnm i (pc + 1) l = l2) (h : xTc cc ss i rk (pc + 1) l2 (.int ((x.toUInt32 >>> (y.toUInt32 &&& Int32.toUInt32 31)).toInt32) :: st) m z) : xTc cc ss i rk pc l (.int y :: .int x :: st) m z := xT_s hop rfl (fun _ _ => rfl) hl h
theorem e_idiv {cc ss i rk pc : Nat} {l l2 : xL} {st : List Value} {m : xmm} {z : xZ} {x y : Int32} (hop : xop i pc = some (.idiv, 1)) (hy : ¬ y = 0) (hl : xnm i (pc + 1) l = l2) (h : xTc cc ss i rk (pc + 1) l2 (.int (x / y) :: st) m z) : xTc cc ss i rk pc l (.int y :: .int x :: st) m z := xT_s hop rfl (fun _ _ => if_neg hy) hl h
theorem e_irem {cc ss i rk pc : Nat} {l l2 : xL} {st : List Value} {m : xmm} {z : xZ} {x y : Int32} (hop : xop i pc = some (.irem, 1)) (hy : ¬ y = 0) (hl : xnm i (pc + 1) l = l2) (h : xTc cc ss i rk (pc + 1) l2 (.int (x - x / y * y) :: st) m z) : xTc cc ss i rk pc l (.int y :: .int x :: st) m z := xT_s hop rfl (fun _ _ => if_neg hy) hl h
theorem e_ineg {cc ss i rk pc : Nat} {l l2 : xL} {st : List Value} {m : xmm} {z : xZ} {x : Int32} (hop : xop i pc = some (.ineg, 1)) (hl : xnm i (pc + 1) l = l2) (h : xTc cc ss i rk (pc + 1) l2 (.int (-x) :: st) m z) : xTc cc ss i rk pc l (.int x :: st) m z := xT_s hop rfl (fun _ _ => rfl) hl h
theorem e_ladd {cc ss i rk pc : Nat} {l l2 : xL} {st : List Value} {m : xmm} {z : xZ} {x y : Int64} (hop : xop i pc = some (.ladd, 1)) (hl : xnm i (pc + 1) l = l2) (h : xTc cc ss i rk (pc + 1) l2 (.long (x + y) :: st) m z) : xTc cc ss i rk pc l (.long y :: .long x :: st) m z := xT_s hop rfl (fun _ _ => rfl) hl h
theorem e_lsub {cc ss i rk pc : Nat} {l l2 : xL} {st : List Value} {m : xmm} {z : xZ} {x y : Int64} (hop : xop i pc = some (.lsub, 1)) (hl : xnm i (pc + 1) l = l2) (h : xTc cc ss i rk (pc + 1) l2 (.long (x - y) :: st) m z) : xTc cc ss i rk pc l (.long y :: .long x :: st) m z := xT_s hop rfl (fun _ _ => rfl) hl h
theorem e_lmul {cc ss i rk pc : Nat} {l l2 : xL} {st : List Value} {m : xmm} {z : xZ} {x y : Int64} (hop : xop i pc = some (.lmul, 1)) (hl : xnm i (pc + 1) l = l2) (h : xTc cc ss i rk (pc + 1) l2 (.long (x * y) :: st) m z) : xTc cc ss i rk pc l (.long y :: .long x :: st) m z := xT_s hop rfl (fun _ _ => rfl) hl h
theorem e_lor {cc ss i rk pc : Nat} {l l2 : xL} {st : List Value} {m : xmm} {z : xZ} {x y : Int64} (hop : xop i pc = some (.lor, 1)) (hl : xnm i (pc + 1) l = l2) (h : xTc cc ss i rk (pc + 1) l2 (.long (x ||| y) :: st) m z) : xTc cc ss i rk pc l (.long y :: .long x :: st) m z := xT_s hop rfl (fun _ _ => rfl) hl h
theorem e_lshl {cc ss i rk pc : Nat} {l l2 : xL} {st : List Value} {m : xmm} {z : xZ} {x : Int64} {y : Int32} (hop : xop i pc = some (.lshl, 1)) (hl : xnm i (pc + 1) l = l2) (h : xTc cc ss i rk (pc + 1) l2 (.long (x <<< (y.toInt64 &&& 63)) :: st) m z) : xTc cc ss i rk pc l (.int y :: .long x :: st) m z := xT_s hop rfl (fun _ _ => rfl) hl h
theorem e_lcmp {cc ss i rk pc : Nat} {l l2 : xL} {st : List Value} {m : xmm} {z : xZ} {x y : Int64} (hop : xop i pc = some (.lcmp, 1)) (hl : xnm i (pc + 1) l = l2) (h : xTc cc ss i rk (pc + 1) l2 (.int (lg_cmp x y) :: st) m z) : xTc cc ss i rk pc l (.long y :: .long x :: st) m z := xT_s hop rfl (fun _ _ => rfl) hl h
theorem e_i2l {cc ss i rk pc : Nat} {l l2 : xL} {st : List Value} {m : xmm} {z : xZ} {x : Int32} (hop : xop i pc = some (.i2l, 1)) (hl : xnm i (pc + 1) l = l2) (h : xTc cc ss i rk (pc + 1) l2 (.long x.toInt64 :: st) m z) : xTc cc ss i rk pc l (.int x :: st) m z := xT_s hop rfl (fun _ _ => rfl) hl h
theorem e_l2i {cc ss i rk pc : Nat} {l l2 : xL} {st : List Value} {m : xmm} {z : xZ} {x : Int64} (hop : xop i pc = some (.l2i, 1)) (hl : xnm i (pc + 1) l = l2) (h : xTc cc ss i rk (pc + 1) l2 (.int x.toInt32 :: st) m z) : xTc cc ss i rk pc l (.long x :: st) m z := xT_s hop rfl (fun _ _ => rfl) hl h
theorem e_i2b {cc ss i rk pc : Nat} {l l2 : xL} {st : List Value} {m : xmm} {z : xZ} {x : Int32} (hop : xop i pc = some (.i2b, 1)) (hl : xnm i (pc + 1) l = l2) (h : xTc cc ss i rk (pc + 1) l2 (.int x.toInt8.toInt32 :: st) m z) : xTc cc ss i rk pc l (.int x :: st) m z := xT_s hop rfl (fun _ _ => rfl) hl h
theorem e_i2c {cc ss i rk pc : Nat} {l l2 : xL} {st : List Value} {m : xmm} {z : xZ} {x : Int32} (hop : xop i pc = some (.i2c, 1)) (hl : xnm i (pc + 1) l = l2) (h : xTc cc ss i rk (pc + 1) l2 (.int (x.toUInt32 % 65536).toInt32 :: st) m z) : xTc cc ss i rk pc l (.int x :: st) m z := xT_s hop rfl (fun _ _ => rfl) hl h
theorem e_dup {cc ss i rk pc : Nat} {l l2 : xL} {st : List Value} {m : xmm} {z : xZ} {v : Value} (hop : xop i pc = some (.dup, 1)) (hc : v.category = 1) (hl : xnm i (pc + 1) l = l2) (h : xTc cc ss i rk (pc + 1) l2 (v :: v :: st) m z) : xTc cc ss i rk pc l (v :: st) m z := xT_s hop rfl (fun _ _ => if_pos hc) hl h
theorem e_dup2 {cc ss i rk pc : Nat} {l l2 : xL} {st : List Value} {m : xmm} {z : xZ} {v w : Value} (hop : xop i pc = some (.dup2, 1)) (hc : v.category = 1) (hc2 : w.category = 1) (hl : xnm i (pc + 1) l = l2) (h : xTc cc ss i rk (pc + 1) l2 (v :: w :: v :: w :: st) m z) : xTc cc ss i rk pc l (v :: w :: st) m z := xT_s hop rfl (fun _ _ => if_pos ⟨hc, hc2⟩) hl h
theorem e_pop {cc ss i rk pc : Nat} {l l2 : xL} {st : List Value} {m : xmm} {z : xZ} {v : Value} (hop : xop i pc = some (.pop, 1)) (hc : v.category = 1) (hl : xnm i (pc + 1) l = l2) (h : xTc cc ss i rk (pc + 1) l2 (st) m z) : xTc cc ss i rk pc l (v :: st) m z := xT_s hop rfl (fun _ _ => if_pos hc) hl h
theorem e_if_eq {α : Type} {cc ss i rk pc t : Nat} {l l1 l2 : xL} {st : List Value} {m : xmm} {z : xZ} {w : α} {o1 o2 : Option α} {x : Int32} {off : Int} (hop : xop i pc = some (.ifCond .eq off, 3)) (ht : (pc : Int) + off = (t : Int)) (hl1 : xnm i t l = l1) (hl2 : xnm i (pc + 3) l = l2) (h : (if x = 0 then o1 else o2) = some w) (h1 : o1 = some w → xTc cc ss i rk t l1 st m z) (h2 : o2 = some w → xTc cc ss i rk (pc + 3) l2 st m z) : xTc cc ss i rk pc l (.int x :: st) m z := by
  by_cases q : x = 0
  · rw [if_pos q] at h
    exact xT_s hop rfl (fun M _ => (xbr_t (c := cc) (s := ss) ht q : _)) hl1 (h1 h)
  · rw [if_neg q] at h
    exact xT_s hop rfl (fun M _ => (xbr_f (c := cc) (s := ss) ht q : _)) hl2 (h2 h)
theorem e_if_ne {α : Type} {cc ss i rk pc t : Nat} {l l1 l2 : xL} {st : List Value} {m : xmm} {z : xZ} {w : α} {o1 o2 : Option α} {x : Int32} {off : Int} (hop : xop i pc = some (.ifCond .ne off, 3)) (ht : (pc : Int) + off = (t : Int)) (hl1 : xnm i t l = l1) (hl2 : xnm i (pc + 3) l = l2) (h : (if x = 0 then o2 else o1) = some w) (h1 : o1 = some w → xTc cc ss i rk t l1 st m z) (h2 : o2 = some w → xTc cc ss i rk (pc + 3) l2 st m z) : xTc cc ss i rk pc l (.int x :: st) m z := by
  by_cases q : x = 0
  · rw [if_pos q] at h
    exact xT_s hop rfl (fun M _ => (xbr_f (c := cc) (s := ss) ht (fun z => z q) : _)) hl2 (h2 h)
  · rw [if_neg q] at h
    exact xT_s hop rfl (fun M _ => (xbr_t (c := cc) (s := ss) ht q : _)) hl1 (h1 h)
theorem e_if_lt {α : Type} {cc ss i rk pc t : Nat} {l l1 l2 : xL} {st : List Value} {m : xmm} {z : xZ} {w : α} {o1 o2 : Option α} {x : Int32} {off : Int} (hop : xop i pc = some (.ifCond .lt off, 3)) (ht : (pc : Int) + off = (t : Int)) (hl1 : xnm i t l = l1) (hl2 : xnm i (pc + 3) l = l2) (h : (if x < 0 then o1 else o2) = some w) (h1 : o1 = some w → xTc cc ss i rk t l1 st m z) (h2 : o2 = some w → xTc cc ss i rk (pc + 3) l2 st m z) : xTc cc ss i rk pc l (.int x :: st) m z := by
  by_cases q : x < 0
  · rw [if_pos q] at h
    exact xT_s hop rfl (fun M _ => (xbr_t (c := cc) (s := ss) ht q : _)) hl1 (h1 h)
  · rw [if_neg q] at h
    exact xT_s hop rfl (fun M _ => (xbr_f (c := cc) (s := ss) ht q : _)) hl2 (h2 h)
theorem e_if_ge {α : Type} {cc ss i rk pc t : Nat} {l l1 l2 : xL} {st : List Value} {m : xmm} {z : xZ} {w : α} {o1 o2 : Option α} {x : Int32} {off : Int} (hop : xop i pc = some (.ifCond .ge off, 3)) (ht : (pc : Int) + off = (t : Int)) (hl1 : xnm i t l = l1) (hl2 : xnm i (pc + 3) l = l2) (h : (if 0 ≤ x then o1 else o2) = some w) (h1 : o1 = some w → xTc cc ss i rk t l1 st m z) (h2 : o2 = some w → xTc cc ss i rk (pc + 3) l2 st m z) : xTc cc ss i rk pc l (.int x :: st) m z := by
  by_cases q : 0 ≤ x
  · rw [if_pos q] at h
    exact xT_s hop rfl (fun M _ => (xbr_t (c := cc) (s := ss) ht q : _)) hl1 (h1 h)
  · rw [if_neg q] at h
    exact xT_s hop rfl (fun M _ => (xbr_f (c := cc) (s := ss) ht q : _)) hl2 (h2 h)
theorem e_if_gt {α : Type} {cc ss i rk pc t : Nat} {l l1 l2 : xL} {st : List Value} {m : xmm} {z : xZ} {w : α} {o1 o2 : Option α} {x : Int32} {off : Int} (hop : xop i pc = some (.ifCond .gt off, 3)) (ht : (pc : Int) + off = (t : Int)) (hl1 : xnm i t l = l1) (hl2 : xnm i (pc + 3) l = l2) (h : (if 0 < x then o1 else o2) = some w) (h1 : o1 = some w → xTc cc ss i rk t l1 st m z) (h2 : o2 = some w → xTc cc ss i rk (pc + 3) l2 st m z) : xTc cc ss i rk pc l (.int x :: st) m z := by
  by_cases q : 0 < x
  · rw [if_pos q] at h
    exact xT_s hop rfl (fun M _ => (xbr_t (c := cc) (s := ss) ht q : _)) hl1 (h1 h)
  · rw [if_neg q] at h
    exact xT_s hop rfl (fun M _ => (xbr_f (c := cc) (s := ss) ht q : _)) hl2 (h2 h)
theorem e_if_le {α : Type} {cc ss i rk pc t : Nat} {l l1 l2 : xL} {st : List Value} {m : xmm} {z : xZ} {w : α} {o1 o2 : Option α} {x : Int32} {off : Int} (hop : xop i pc = some (.ifCond .le off, 3)) (ht : (pc : Int) + off = (t : Int)) (hl1 : xnm i t l = l1) (hl2 : xnm i (pc + 3) l = l2) (h : (if x ≤ 0 then o1 else o2) = some w) (h1 : o1 = some w → xTc cc ss i rk t l1 st m z) (h2 : o2 = some w → xTc cc ss i rk (pc + 3) l2 st m z) : xTc cc ss i rk pc l (.int x :: st) m z := by
  by_cases q : x ≤ 0
  · rw [if_pos q] at h
    exact xT_s hop rfl (fun M _ => (xbr_t (c := cc) (s := ss) ht q : _)) hl1 (h1 h)
  · rw [if_neg q] at h
    exact xT_s hop rfl (fun M _ => (xbr_f (c := cc) (s := ss) ht q : _)) hl2 (h2 h)
theorem e_icmp_eq {α : Type} {cc ss i rk pc t : Nat} {l l1 l2 : xL} {st : List Value} {m : xmm} {z : xZ} {w : α} {o1 o2 : Option α} {x y : Int32} {off : Int} (hop : xop i pc = some (.if_icmp .eq off, 3)) (ht : (pc : Int) + off = (t : Int)) (hl1 : xnm i t l = l1) (hl2 : xnm i (pc + 3) l = l2) (h : (if x = y then o1 else o2) = some w) (h1 : o1 = some w → xTc cc ss i rk t l1 st m z) (h2 : o2 = some w → xTc cc ss i rk (pc + 3) l2 st m z) : xTc cc ss i rk pc l (.int y :: .int x :: st) m z := by
  by_cases q : x = y
  · rw [if_pos q] at h
    exact xT_s hop rfl (fun M _ => (xbr_t (c := cc) (s := ss) ht q : _)) hl1 (h1 h)
  · rw [if_neg q] at h
    exact xT_s hop rfl (fun M _ => (xbr_f (c := cc) (s := ss) ht q : _)) hl2 (h2 h)
theorem e_icmp_ne {α : Type} {cc ss i rk pc t : Nat} {l l1 l2 : xL} {st : List Value} {m : xmm} {z : xZ} {w : α} {o1 o2 : Option α} {x y : Int32} {off : Int} (hop : xop i pc = some (.if_icmp .ne off, 3)) (ht : (pc : Int) + off = (t : Int)) (hl1 : xnm i t l = l1) (hl2 : xnm i (pc + 3) l = l2) (h : (if x = y then o2 else o1) = some w) (h1 : o1 = some w → xTc cc ss i rk t l1 st m z) (h2 : o2 = some w → xTc cc ss i rk (pc + 3) l2 st m z) : xTc cc ss i rk pc l (.int y :: .int x :: st) m z := by
  by_cases q : x = y
  · rw [if_pos q] at h
    exact xT_s hop rfl (fun M _ => (xbr_f (c := cc) (s := ss) ht (fun z => z q) : _)) hl2 (h2 h)
  · rw [if_neg q] at h
    exact xT_s hop rfl (fun M _ => (xbr_t (c := cc) (s := ss) ht q : _)) hl1 (h1 h)
theorem e_icmp_lt {α : Type} {cc ss i rk pc t : Nat} {l l1 l2 : xL} {st : List Value} {m : xmm} {z : xZ} {w : α} {o1 o2 : Option α} {x y : Int32} {off : Int} (hop : xop i pc = some (.if_icmp .lt off, 3)) (ht : (pc : Int) + off = (t : Int)) (hl1 : xnm i t l = l1) (hl2 : xnm i (pc + 3) l = l2) (h : (if x < y then o1 else o2) = some w) (h1 : o1 = some w → xTc cc ss i rk t l1 st m z) (h2 : o2 = some w → xTc cc ss i rk (pc + 3) l2 st m z) : xTc cc ss i rk pc l (.int y :: .int x :: st) m z := by
  by_cases q : x < y
  · rw [if_pos q] at h
    exact xT_s hop rfl (fun M _ => (xbr_t (c := cc) (s := ss) ht q : _)) hl1 (h1 h)
  · rw [if_neg q] at h
    exact xT_s hop rfl (fun M _ => (xbr_f (c := cc) (s := ss) ht q : _)) hl2 (h2 h)
theorem e_icmp_ge {α : Type} {cc ss i rk pc t : Nat} {l l1 l2 : xL} {st : List Value} {m : xmm} {z : xZ} {w : α} {o1 o2 : Option α} {x y : Int32} {off : Int} (hop : xop i pc = some (.if_icmp .ge off, 3)) (ht : (pc : Int) + off = (t : Int)) (hl1 : xnm i t l = l1) (hl2 : xnm i (pc + 3) l = l2) (h : (if y ≤ x then o1 else o2) = some w) (h1 : o1 = some w → xTc cc ss i rk t l1 st m z) (h2 : o2 = some w → xTc cc ss i rk (pc + 3) l2 st m z) : xTc cc ss i rk pc l (.int y :: .int x :: st) m z := by
  by_cases q : y ≤ x
  · rw [if_pos q] at h
    exact xT_s hop rfl (fun M _ => (xbr_t (c := cc) (s := ss) ht q : _)) hl1 (h1 h)
  · rw [if_neg q] at h
    exact xT_s hop rfl (fun M _ => (xbr_f (c := cc) (s := ss) ht q : _)) hl2 (h2 h)
theorem e_icmp_gt {α : Type} {cc ss i rk pc t : Nat} {l l1 l2 : xL} {st : List Value} {m : xmm} {z : xZ} {w : α} {o1 o2 : Option α} {x y : Int32} {off : Int} (hop : xop i pc = some (.if_icmp .gt off, 3)) (ht : (pc : Int) + off = (t : Int)) (hl1 : xnm i t l = l1) (hl2 : xnm i (pc + 3) l = l2) (h : (if y < x then o1 else o2) = some w) (h1 : o1 = some w → xTc cc ss i rk t l1 st m z) (h2 : o2 = some w → xTc cc ss i rk (pc + 3) l2 st m z) : xTc cc ss i rk pc l (.int y :: .int x :: st) m z := by
  by_cases q : y < x
  · rw [if_pos q] at h
    exact xT_s hop rfl (fun M _ => (xbr_t (c := cc) (s := ss) ht q : _)) hl1 (h1 h)
  · rw [if_neg q] at h
    exact xT_s hop rfl (fun M _ => (xbr_f (c := cc) (s := ss) ht q : _)) hl2 (h2 h)
theorem e_icmp_le {α : Type} {cc ss i rk pc t : Nat} {l l1 l2 : xL} {st : List Value} {m : xmm} {z : xZ} {w : α} {o1 o2 : Option α} {x y : Int32} {off : Int} (hop : xop i pc = some (.if_icmp .le off, 3)) (ht : (pc : Int) + off = (t : Int)) (hl1 : xnm i t l = l1) (hl2 : xnm i (pc + 3) l = l2) (h : (if x ≤ y then o1 else o2) = some w) (h1 : o1 = some w → xTc cc ss i rk t l1 st m z) (h2 : o2 = some w → xTc cc ss i rk (pc + 3) l2 st m z) : xTc cc ss i rk pc l (.int y :: .int x :: st) m z := by
  by_cases q : x ≤ y
  · rw [if_pos q] at h
    exact xT_s hop rfl (fun M _ => (xbr_t (c := cc) (s := ss) ht q : _)) hl1 (h1 h)
  · rw [if_neg q] at h
    exact xT_s hop rfl (fun M _ => (xbr_f (c := cc) (s := ss) ht q : _)) hl2 (h2 h)
theorem e_goto {cc ss i rk pc t : Nat} {l l2 : xL} {st : List Value} {m : xmm} {z : xZ} {off : Int} (hop : xop i pc = some (.goto off, 3)) (ht : (pc : Int) + off = (t : Int)) (hl : xnm i t l = l2) (h : xTc cc ss i rk t l2 st m z) : xTc cc ss i rk pc l st m z := xT_s hop rfl (fun M _ => (xjp_t (c := cc) (s := ss) ht : _)) hl h
theorem e_nonnull {cc ss i rk pc t : Nat} {l l2 : xL} {st : List Value} {m : xmm} {z : xZ} {off : Int} {x : Nat} (hop : xop i pc = some (.ifnonnull off, 3)) (hx : Nat.beq x 1999 = false) (ht : (pc : Int) + off = (t : Int)) (hl : xnm i t l = l2) (h : xTc cc ss i rk t l2 st m z) : xTc cc ss i rk pc l (.ref x :: st) m z := xT_s hop rfl (fun M _ => (if_neg (xneq hx)).trans (xjp_t (c := cc) (s := ss) ht)) hl h
theorem e_nonnullN {cc ss i rk pc : Nat} {l l2 : xL} {st : List Value} {m : xmm} {z : xZ} {off : Int} (hop : xop i pc = some (.ifnonnull off, 3)) (hl : xnm i (pc + 3) l = l2) (h : xTc cc ss i rk (pc + 3) l2 st m z) : xTc cc ss i rk pc l (.null :: st) m z := xT_s hop rfl (fun M _ => rfl) hl h
theorem e_sw {cc ss i rk pc t n : Nat} {l l2 : xL} {st : List Value} {m : xmm} {z : xZ} {d lo hi o : Int} {offs : Array Int} {x : Int32} (hop : xop i pc = some (.tableswitch d lo hi offs, n)) (hg : lo + offs.toList.length = hi + 1 ∧ -1000 ≤ lo ∧ hi ≤ 1000 ∧ lo ≤ hi) (hx : xsw lo offs.toList d x = o) (ht : (pc : Int) + o = (t : Int)) (hl : xnm i t l = l2) (h : xTc cc ss i rk t l2 st m z) : xTc cc ss i rk pc l (.int x :: st) m z := xT_s hop rfl (fun M _ => (if_pos hg).trans (by rw [hx]; exact xjp_t (c := cc) (s := ss) ht)) hl h
theorem xsw_p {lo d o : Int} {os : List Int} {x : Int32} (h : x = Int32.ofInt lo) : xsw lo (o :: os) d x = o := if_pos h
theorem xsw_n {lo d o r : Int} {os : List Int} {x : Int32} (h : ¬ x = Int32.ofInt lo) (k : xsw (lo + 1) os d x = r) : xsw lo (o :: os) d x = r := (if_neg h).trans k
theorem xsw_d {lo d : Int} {x : Int32} : xsw lo [] d x = d := rfl
/-! constants of the pools, fields -/
theorem e_ldcI {cc ss i rk pc q : Nat} {l l2 : xL} {st : List Value} {m : xmm} {z : xZ} {v : Int32} (hop : xop i pc = some (.ldc q, 2)) (hk : xkI (xow i) q = some v) (hl : xnm i (pc + 2) l = l2) (h : xTc cc ss i rk (pc + 2) l2 (.int v :: st) m z) : xTc cc ss i rk pc l st m z := xT_s hop rfl (fun M _ => by show (match xkI (xow i) q, xkS (xow i) q with | some v, _ => xgo i rk (pc + 2) l (.int v :: st) M cc ss | none, some j => xgo i rk (pc + 2) l (.ref (1000 + j) :: st) M cc ss | none, none => none) = _; rw [hk]) hl h
theorem e_ldcS {cc ss i rk pc q j : Nat} {l l2 : xL} {st : List Value} {m : xmm} {z : xZ} (hop : xop i pc = some (.ldc q, 2)) (hk : xkI (xow i) q = none) (hj : xkS (xow i) q = some j) (hl : xnm i (pc + 2) l = l2) (h : xTc cc ss i rk (pc + 2) l2 (.ref (1000 + j) :: st) m z) : xTc cc ss i rk pc l st m z := xT_s hop rfl (fun M _ => by show (match xkI (xow i) q, xkS (xow i) q with | some v, _ => xgo i rk (pc + 2) l (.int v :: st) M cc ss | none, some j => xgo i rk (pc + 2) l (.ref (1000 + j) :: st) M cc ss | none, none => none) = _; rw [hk, hj]) hl h
theorem e_ldcw {cc ss i rk pc q : Nat} {l l2 : xL} {st : List Value} {m : xmm} {z : xZ} {v : Int32} (hop : xop i pc = some (.ldc_w q, 3)) (hk : xkI (xow i) q = some v) (hl : xnm i (pc + 3) l = l2) (h : xTc cc ss i rk (pc + 3) l2 (.int v :: st) m z) : xTc cc ss i rk pc l st m z := xT_s hop rfl (fun M _ => by show (match xkI (xow i) q with | some v => xgo i rk (pc + 3) l (.int v :: st) M cc ss | none => none) = _; rw [hk]) hl h
theorem e_ldc2 {cc ss i rk pc q : Nat} {l l2 : xL} {st : List Value} {m : xmm} {z : xZ} {v : Int64} (hop : xop i pc = some (.ldc2_w q, 3)) (hk : xkJ (xow i) q = some v) (hl : xnm i (pc + 3) l = l2) (h : xTc cc ss i rk (pc + 3) l2 (.long v :: st) m z) : xTc cc ss i rk pc l st m z := xT_s hop rfl (fun M _ => by show (match xkJ (xow i) q with | some v => xgo i rk (pc + 3) l (.long v :: st) M cc ss | none => none) = _; rw [hk]) hl h
theorem xob_obj {M : xM} {m : xmm} (hM : xag M m) {k ci : Nat} (h : xob k ci = true) : xobj M k ci = true ∧ k < xK0 := by
  unfold xob at h
  simp only [Bool.and_eq_true] at h
  have hk : k < xK0 := xkd_own (t := 0) (n := ci) (Prod.ext (Nat.eq_of_beq_eq_true h.1) (Nat.eq_of_beq_eq_true h.2)) (by decide)
  refine ⟨?_, hk⟩
  unfold xobj
  rw [h.1, h.2, hM.2.2.1, show Nat.blt (xsg k) (xctm m) = true from Nat.ble_eq_true_of_le (xsg_own hk)]
  rfl
theorem xget_I {M : xM} {m : xmm} (hM : xag M m) {i q ci j c k : Nat} (hf : xfl (xow i) q = some (ci, j, c)) (hc : Nat.blt c 2 = true) (hob : xob k ci = true) : xget i q M k = some (.int (m.1 k j)) := by
  unfold xget
  rw [hf]
  dsimp only
  rw [if_pos (show c < 2 from Nat.le_of_ble_eq_true hc), if_pos (xob_obj hM hob).1, hM.1]
theorem xget_R {M : xM} {m : xmm} (hM : xag M m) {i q ci j c k r : Nat} (hf : xfl (xow i) q = some (ci, j, c)) (hc : (Nat.ble 2 c && Nat.blt c 4 && Nat.blt j 64) = true) (hob : xob k ci = true) (hr : xR0 k j = r + 1) : xget i q M k = some (.ref r) := by
  simp only [Bool.and_eq_true] at hc
  have h2 := Nat.le_of_ble_eq_true hc.1.1
  have h4 : c < 4 := Nat.le_of_ble_eq_true hc.1.2
  unfold xget
  rw [hf]
  dsimp only
  rw [if_neg (by omega), if_pos h4, if_pos (xob_obj hM hob).1, hM.2.2.2 k j (xob_obj hM hob).2 (Nat.le_of_ble_eq_true hc.2), hr]
theorem xget_SV {M : xM} {i q a b k : Nat} (hf : xfl (xow i) q = some (a, b, 10)) (hk : 1000 ≤ k ∧ k < 1004) : xget i q M k = some (.ref (k + 10)) := by
  unfold xget
  rw [hf]
  dsimp only
  rw [if_neg (by decide), if_neg (by decide), if_pos ⟨rfl, hk⟩]
theorem xget_SC {M : xM} {i q a b k : Nat} (hf : xfl (xow i) q = some (a, b, 11)) (hk : 1000 ≤ k ∧ k < 1004) : xget i q M k = some (.int 0) := by
  unfold xget
  rw [hf]
  dsimp only
  rw [if_neg (by decide), if_neg (by decide), if_neg (fun h => absurd h.1 (by decide)), if_pos ⟨rfl, hk⟩]
theorem e_get {cc ss i rk pc q k : Nat} {l l2 : xL} {st : List Value} {m : xmm} {z : xZ} {v : Value} (hop : xop i pc = some (.getfield q, 3)) (hg : ∀ M, xag M m → xget i q M k = some v) (hl : xnm i (pc + 3) l = l2) (h : xTc cc ss i rk (pc + 3) l2 (v :: st) m z) : xTc cc ss i rk pc l (.ref k :: st) m z := xT_s hop rfl (fun M hM => by show (match xget i q M k with | some v => xgo i rk (pc + 3) l (v :: st) M cc ss | none => none) = _; rw [hg M hM]) hl h
theorem e_getI {cc ss i rk pc q k ci j c : Nat} {l l2 : xL} {st : List Value} {m : xmm} {z : xZ} (hop : xop i pc = some (.getfield q, 3)) (hf : xfl (xow i) q = some (ci, j, c)) (hc : Nat.blt c 2 = true) (hob : xob k ci = true) (hl : xnm i (pc + 3) l = l2) (h : xTc cc ss i rk (pc + 3) l2 (.int (m.1 k j) :: st) m z) : xTc cc ss i rk pc l (.ref k :: st) m z := e_get hop (fun _ hM => xget_I hM hf hc hob) hl h
theorem e_getR {cc ss i rk pc q k ci j c r : Nat} {l l2 : xL} {st : List Value} {m : xmm} {z : xZ} (hop : xop i pc = some (.getfield q, 3)) (hf : xfl (xow i) q = some (ci, j, c)) (hc : (Nat.ble 2 c && Nat.blt c 4 && Nat.blt j 64) = true) (hob : xob k ci = true) (hr : xR0 k j = r + 1) (hl : xnm i (pc + 3) l = l2) (h : xTc cc ss i rk (pc + 3) l2 (.ref r :: st) m z) : xTc cc ss i rk pc l (.ref k :: st) m z := e_get hop (fun _ hM => xget_R hM hf hc hob hr) hl h
theorem e_getSV {cc ss i rk pc q k a b : Nat} {l l2 : xL} {st : List Value} {m : xmm} {z : xZ} (hop : xop i pc = some (.getfield q, 3)) (hf : xfl (xow i) q = some (a, b, 10)) (hk : 1000 ≤ k ∧ k < 1004) (hl : xnm i (pc + 3) l = l2) (h : xTc cc ss i rk (pc + 3) l2 (.ref (k + 10) :: st) m z) : xTc cc ss i rk pc l (.ref k :: st) m z := e_get hop (fun _ _ => xget_SV hf hk) hl h
theorem e_getSC {cc ss i rk pc q k a b : Nat} {l l2 : xL} {st : List Value} {m : xmm} {z : xZ} (hop : xop i pc = some (.getfield q, 3)) (hf : xfl (xow i) q = some (a, b, 11)) (hk : 1000 ≤ k ∧ k < 1004) (hl : xnm i (pc + 3) l = l2) (h : xTc cc ss i rk (pc + 3) l2 (.int 0 :: st) m z) : xTc cc ss i rk pc l (.ref k :: st) m z := e_get hop (fun _ _ => xget_SC hf hk) hl h
theorem xag_si {M : xM} {m : xmm} (hM : xag M m) (k i : Nat) (hk : k < 1000) (v : Int32) : xag (xsi M k i v) (xwi m k i v) := ⟨by show (fun a b => if a = k ∧ b = i then v else M.1 a b) = _; rw [hM.1]; rfl, hM.2.1, by
  show M.2.2.2 = _
  rw [hM.2.2.1]
  unfold xctm
  have e : (xwi m k i v).1 1995 0 = m.1 1995 0 := if_neg (fun q => by omega)
  rw [e], hM.2.2.2⟩
theorem xag_own {k : Nat} (h : k < xK0) : k < 1000 := Nat.lt_trans h (by decide)
theorem xag_sj {M : xM} {m : xmm} (hM : xag M m) (k i : Nat) (v : Int64) : xag (xsj M k i v) (xwj m k i v) := ⟨hM.1, by show (fun a b => if a = k ∧ b = i then v else M.2.1 a b) = _; rw [hM.2.1]; rfl, hM.2.2.1, hM.2.2.2⟩
theorem e_putI {cc ss i rk pc q k ci j c : Nat} {l l2 : xL} {st : List Value} {m : xmm} {z : xZ} {x : Int32} (hop : xop i pc = some (.putfield q, 3)) (hf : xfl (xow i) q = some (ci, j, c)) (hc : (Nat.beq c 0 || (Nat.beq c 1 && xz01 x)) = true) (hob : xob k ci = true) (hl : xnm i (pc + 3) l = l2) (h : xTc cc ss i rk (pc + 3) l2 st (xwi m k j x) z) : xTc cc ss i rk pc l (.int x :: .ref k :: st) m z := by
  refine xT_w hop rfl (fun M hM => ⟨xsi M k j x, xag_si hM k j (xag_own (xob_obj hM hob).2) x, ?_⟩) hl h
  have e : xput i q M k (.int x) = some (xsi M k j x) := by
    unfold xput
    rw [hf]
    dsimp only
    refine if_pos ⟨(xob_obj hM hob).1, ?_⟩
    rcases Bool.or_eq_true_iff.mp hc with h | h
    · exact Or.inl (Nat.eq_of_beq_eq_true h)
    · rw [Bool.and_eq_true] at h
      refine Or.inr ⟨Nat.eq_of_beq_eq_true h.1, ?_⟩
      have h2 := h.2
      unfold xz01 at h2
      simpa using h2
  show (match xput i q M k (.int x) with | some M' => xgo i rk (pc + 3) l st M' cc ss | none => none) = _
  rw [e]
theorem e_statI {cc ss i rk pc q a b : Nat} {l l2 : xL} {st : List Value} {m : xmm} {z : xZ} (hop : xop i pc = some (.getstatic q, 3)) (hf : xfl (xow i) q = some (a, b, 12)) (hl : xnm i (pc + 3) l = l2) (h : xTc cc ss i rk (pc + 3) l2 (.int 1 :: st) m z) : xTc cc ss i rk pc l st m z := xT_s hop rfl (fun M _ => by show (match xfl (xow i) q with | some (_, _, d) => if d = 12 then xgo i rk (pc + 3) l (.int 1 :: st) M cc ss else if d = 13 then xgo i rk (pc + 3) l (.ref 1999 :: st) M cc ss else none | none => none) = _; rw [hf]; rfl) hl h
theorem e_statR {cc ss i rk pc q a b : Nat} {l l2 : xL} {st : List Value} {m : xmm} {z : xZ} (hop : xop i pc = some (.getstatic q, 3)) (hf : xfl (xow i) q = some (a, b, 13)) (hl : xnm i (pc + 3) l = l2) (h : xTc cc ss i rk (pc + 3) l2 (.ref 1999 :: st) m z) : xTc cc ss i rk pc l st m z := xT_s hop rfl (fun M _ => by show (match xfl (xow i) q with | some (_, _, d) => if d = 12 then xgo i rk (pc + 3) l (.int 1 :: st) M cc ss else if d = 13 then xgo i rk (pc + 3) l (.ref 1999 :: st) M cc ss else none | none => none) = _; rw [hf]; rfl) hl h
/-! arrays -/
theorem xia_in {M : xM} {m : xmm} (hM : xag M m) {t k : Nat} {x : Int32} (ht : t < 9) (h : xia t k x = true) : xin1 M t k x = true ∧ k < xK0 := by
  unfold xia xinb at h
  simp only [Bool.and_eq_true] at h
  have hk : k < xK0 := xkd_own (t := t) (n := (xkd k).2) (Prod.ext (Nat.eq_of_beq_eq_true h.1) rfl) ht
  refine ⟨?_, hk⟩
  unfold xin1
  simp only [Bool.and_eq_true, beq_iff_eq]
  rw [xkM_own (M := M) (Prod.ext (Nat.eq_of_beq_eq_true h.1) rfl : xkd k = (t, (xkd k).2)) ht]
  exact ⟨⟨⟨rfl, by rw [hM.2.2.1]; exact Nat.ble_eq_true_of_le (xsg_own hk)⟩, h.2.1⟩, h.2.2⟩
theorem xia_tg {t k : Nat} {x : Int32} (h : xia t k x = true) : Nat.beq (xkd k).1 t = true := by
  unfold xia at h
  simp only [Bool.and_eq_true] at h
  exact h.1
theorem xsg_far {m : xmm} {k : Nat} (h : 1000 ≤ k) : xctm m ≤ xsg k := by
  have h2 := (xctm_lt m).2
  unfold xsg
  rw [if_neg (by omega)]
  omega
theorem xin1_far {M : xM} {m : xmm} (hM : xag M m) {t k : Nat} {x : Int32} (hk : 1000 ≤ k) : xin1 M t k x = false := by
  cases hq : xin1 M t k x with
  | false => rfl
  | true =>
    have h1 := (xin1_spec hq).2.1
    rw [hM.2.2.1] at h1
    have h2 := (xctm_lt m).2
    unfold xsg at h1
    rw [if_neg (by omega)] at h1
    omega
theorem e_iald {cc ss i rk pc k : Nat} {l l2 : xL} {st : List Value} {m : xmm} {z : xZ} {x : Int32} (hop : xop i pc = some (.iaload, 1)) (hi : xia 1 k x = true) (hl : xnm i (pc + 1) l = l2) (h : xTc cc ss i rk (pc + 1) l2 (.int (m.1 k x.toNatClampNeg) :: st) m z) : xTc cc ss i rk pc l (.int x :: .ref k :: st) m z := xT_s hop rfl (fun M hM => by
  show (match xald M k x with | some v => xgo i rk (pc + 1) l (.int v :: st) M cc ss | none => none) = _
  unfold xald
  rw [if_pos (xia_in hM (by decide) hi).1, hM.1]) hl h
theorem e_sald {cc ss i rk pc : Nat} {l l2 : xL} {st : List Value} {m : xmm} {z : xZ} {x : Int32} (hop : xop i pc = some (.iaload, 1)) (hi : xinb (m.1 1997 0).toNatClampNeg x = true) (hl : xnm i (pc + 1) l = l2) (h : xTc cc ss i rk (pc + 1) l2 (.int (m.1 1998 x.toNatClampNeg) :: st) m z) : xTc cc ss i rk pc l (.int x :: .ref 1998 :: st) m z := xT_s hop rfl (fun M hM => by
  show (match xald M 1998 x with | some v => xgo i rk (pc + 1) l (.int v :: st) M cc ss | none => none) = _
  unfold xinb at hi
  simp only [Bool.and_eq_true, decide_eq_true_eq] at hi
  unfold xald
  rw [if_neg (fun q => by rw [xin1_far hM (by decide)] at q; cases q), hM.1, if_pos ⟨rfl, hi.1, Nat.le_of_ble_eq_true hi.2⟩]) hl h
theorem e_bald {cc ss i rk pc k : Nat} {l l2 : xL} {st : List Value} {m : xmm} {z : xZ} {x : Int32} (hop : xop i pc = some (.baload, 1)) (hi : (xia 3 k x || xia 4 k x) = true) (hl : xnm i (pc + 1) l = l2) (h : xTc cc ss i rk (pc + 1) l2 (.int (m.1 k x.toNatClampNeg) :: st) m z) : xTc cc ss i rk pc l (.int x :: .ref k :: st) m z := xT_s hop rfl (fun M hM => by
  show (match xbld M k x with | some v => xgo i rk (pc + 1) l (.int v :: st) M cc ss | none => none) = _
  unfold xbld
  rw [if_pos (Bool.or_eq_true_iff.mpr ((Bool.or_eq_true_iff.mp hi).imp (fun h => (xia_in hM (by decide) h).1) (fun h => (xia_in hM (by decide) h).1))), hM.1]) hl h
theorem e_sbld {cc ss i rk pc k : Nat} {l l2 : xL} {st : List Value} {m : xmm} {z : xZ} {x v : Int32} (hop : xop i pc = some (.baload, 1)) (hk : 1010 ≤ k ∧ k < 1014) (h0 : 0 ≤ x) (hv : (xstr (k - 1010))[x.toNatClampNeg]? = some v) (hl : xnm i (pc + 1) l = l2) (h : xTc cc ss i rk (pc + 1) l2 (.int v :: st) m z) : xTc cc ss i rk pc l (.int x :: .ref k :: st) m z := xT_s hop rfl (fun M hM => by
  show (match xbld M k x with | some v => xgo i rk (pc + 1) l (.int v :: st) M cc ss | none => none) = _
  have e : ∀ t, t < 9 → xin1 M t k x = false := fun t ht => xin1_far hM (by omega)
  unfold xbld
  rw [e 3 (by decide), e 4 (by decide), if_neg (by decide), if_pos ⟨hk.1, hk.2, h0⟩, hv]) hl h
theorem e_lald {cc ss i rk pc k : Nat} {l l2 : xL} {st : List Value} {m : xmm} {z : xZ} {x : Int32} (hop : xop i pc = some (.laload, 1)) (hi : xia 2 k x = true) (hl : xnm i (pc + 1) l = l2) (h : xTc cc ss i rk (pc + 1) l2 (.long (m.2 k x.toNatClampNeg) :: st) m z) : xTc cc ss i rk pc l (.int x :: .ref k :: st) m z := xT_s hop rfl (fun M hM => (if_pos (xia_in hM (by decide) hi).1).trans (by rw [hM.2.1])) hl h
theorem e_aald {cc ss i rk pc k r : Nat} {l l2 : xL} {st : List Value} {m : xmm} {z : xZ} {x : Int32} (hop : xop i pc = some (.aaload, 1)) (hi : xia 5 k x = true) (h64 : Nat.blt (xkd k).2 65 = true) (hr : xR0 k x.toNatClampNeg = r + 1) (hl : xnm i (pc + 1) l = l2) (h : xTc cc ss i rk (pc + 1) l2 (.ref r :: st) m z) : xTc cc ss i rk pc l (.int x :: .ref k :: st) m z := xT_s hop rfl (fun M hM => by
  have h1 := xia_in hM (by decide) hi
  refine (if_pos h1.1).trans ?_
  rw [hM.2.2.2 k _ h1.2 (by have := (xin1_spec h1.1).2.2.2; rw [xkM_own (M := M) (Prod.ext (Nat.eq_of_beq_eq_true (xia_tg hi)) rfl : xkd k = (5, (xkd k).2)) (by decide)] at this; have h65 : (xkd k).2 < 65 := Nat.le_of_ble_eq_true h64; omega), hr]) hl h
theorem e_iast {cc ss i rk pc k : Nat} {l l2 : xL} {st : List Value} {m : xmm} {z : xZ} {x v : Int32} (hop : xop i pc = some (.iastore, 1)) (hi : xia 1 k x = true) (hl : xnm i (pc + 1) l = l2) (h : xTc cc ss i rk (pc + 1) l2 st (xwi m k x.toNatClampNeg v) z) : xTc cc ss i rk pc l (.int v :: .int x :: .ref k :: st) m z := xT_w hop rfl (fun M hM => ⟨_, xag_si hM k _ (xag_own (xia_in hM (by decide) hi).2) v, if_pos (xia_in hM (by decide) hi).1⟩) hl h
theorem e_bast {cc ss i rk pc k : Nat} {l l2 : xL} {st : List Value} {m : xmm} {z : xZ} {x v : Int32} (hop : xop i pc = some (.bastore, 1)) (hi : xia 3 k x = true) (hl : xnm i (pc + 1) l = l2) (h : xTc cc ss i rk (pc + 1) l2 st (xwi m k x.toNatClampNeg v.toInt8.toInt32) z) : xTc cc ss i rk pc l (.int v :: .int x :: .ref k :: st) m z := xT_w hop rfl (fun M hM => ⟨_, xag_si hM k _ (xag_own (xia_in hM (by decide) hi).2) _, if_pos (xia_in hM (by decide) hi).1⟩) hl h
theorem e_zast {cc ss i rk pc k : Nat} {l l2 : xL} {st : List Value} {m : xmm} {z : xZ} {x v : Int32} (hop : xop i pc = some (.bastore, 1)) (hi : xia 4 k x = true) (hv : xz01 v = true) (hl : xnm i (pc + 1) l = l2) (h : xTc cc ss i rk (pc + 1) l2 st (xwi m k x.toNatClampNeg v) z) : xTc cc ss i rk pc l (.int v :: .int x :: .ref k :: st) m z := xT_w hop rfl (fun M hM => ⟨_, xag_si hM k _ (xag_own (xia_in hM (by decide) hi).2) v, by
  have h4 := (xia_in hM (by decide) hi).1
  have h3 : ¬ xin1 M 3 k x = true := fun q => by have := (xin1_spec q).1; rw [(xin1_spec h4).1] at this; exact absurd this (by decide)
  refine (if_neg h3).trans (if_pos ⟨h4, ?_⟩)
  unfold xz01 at hv
  simpa using hv⟩) hl h
theorem e_last {cc ss i rk pc k : Nat} {l l2 : xL} {st : List Value} {m : xmm} {z : xZ} {x : Int32} {v : Int64} (hop : xop i pc = some (.lastore, 1)) (hi : xia 2 k x = true) (hl : xnm i (pc + 1) l = l2) (h : xTc cc ss i rk (pc + 1) l2 st (xwj m k x.toNatClampNeg v) z) : xTc cc ss i rk pc l (.long v :: .int x :: .ref k :: st) m z := xT_w hop rfl (fun M hM => ⟨_, xag_sj hM k _ v, if_pos (xia_in hM (by decide) hi).1⟩) hl h
theorem xbeq (a b : Nat) : (a == b) = Nat.beq a b := by
  cases h : Nat.beq a b with
  | false => exact beq_eq_false_iff_ne.mpr (Nat.ne_of_beq_eq_false h)
  | true => exact beq_iff_eq.mpr (Nat.eq_of_beq_eq_true h)
def xalen (k : Nat) : Option Int32 := bif Nat.blt k xK0 && !(Nat.beq (xkd k).1 0) then some (Int32.ofNat (xkd k).2) else bif Nat.ble 1010 k && Nat.blt k 1014 then some (Int32.ofNat (xstr (k - 1010)).length) else none
theorem e_alen {cc ss i rk pc k : Nat} {l l2 : xL} {st : List Value} {m : xmm} {z : xZ} {v : Int32} (hop : xop i pc = some (.arraylength, 1)) (hv : xalen k = some v) (hl : xnm i (pc + 1) l = l2) (h : xTc cc ss i rk (pc + 1) l2 (.int v :: st) m z) : xTc cc ss i rk pc l (.ref k :: st) m z := xT_s hop rfl (fun M hM => by
  show (match xlen M k with | some v => xgo i rk (pc + 1) l (.int v :: st) M cc ss | none => none) = _
  have e : xlen M k = some v := by
    unfold xalen at hv
    cases hq : (Nat.blt k xK0 && !(Nat.beq (xkd k).1 0)) with
    | true =>
      rw [hq] at hv
      rw [Bool.and_eq_true] at hq
      have hk : k < xK0 := Nat.le_of_ble_eq_true hq.1
      have e1 : xkM M k = xkd k := by
        unfold xkM
        rw [show Nat.blt k 144 = true from hq.1]
        rfl
      unfold xlen
      rw [hM.2.2.1, e1, xbeq, show Nat.blt (xsg k) (xctm m) = true from Nat.ble_eq_true_of_le (xsg_own hk), hq.2]
      exact hv
    | false =>
      rw [hq] at hv
      have hv : (bif Nat.ble 1010 k && Nat.blt k 1014 then some (Int32.ofNat (xstr (k - 1010)).length) else none) = some v := hv
      cases hq2 : (Nat.ble 1010 k && Nat.blt k 1014) with
      | false => rw [hq2] at hv; cases hv
      | true =>
        rw [hq2] at hv
        rw [Bool.and_eq_true] at hq2
        have a1 := Nat.le_of_ble_eq_true hq2.1
        have a2 : k < 1014 := Nat.le_of_ble_eq_true hq2.2
        unfold xlen
        rw [hM.2.2.1, show Nat.blt (xsg k) (xctm m) = false from xblt (xsg_far (m := m) (by omega)), Bool.false_and, if_neg (by decide), if_neg (by omega), if_pos ⟨a1, a2⟩]
        exact hv
  rw [e]) hl h
theorem e_slen {cc ss i rk pc : Nat} {l l2 : xL} {st : List Value} {m : xmm} {z : xZ} (hop : xop i pc = some (.arraylength, 1)) (hl : xnm i (pc + 1) l = l2) (h : xTc cc ss i rk (pc + 1) l2 (.int (m.1 1997 0) :: st) m z) : xTc cc ss i rk pc l (.ref 1998 :: st) m z := xT_s hop rfl (fun M hM => by
  show (match xlen M 1998 with | some v => xgo i rk (pc + 1) l (.int v :: st) M cc ss | none => none) = _
  have e : xlen M 1998 = some (m.1 1997 0) := by
    unfold xlen
    rw [hM.2.2.1, show Nat.blt (xsg 1998) (xctm m) = false from xblt (xsg_far (m := m) (by decide)), Bool.false_and, if_neg (by decide), if_pos rfl, hM.1]
  rw [e]) hl h
/-! ends, and the start of a block -/
def xlt {α β : Type} (a : α) (f : α → β) : β := f a
theorem xlt_b {α β : Type} {a : α} {f : α → β} {z : β} (h : xlt a f = z) : f a = z := h
/-- a reference or null -/
def xrc {β : Type} (r : Nat) (a : β) (f : Nat → β) : β := match r with
  | 0 => a
  | k + 1 => f k
theorem xlfI {i rk pc : Nat} {l : xL} {st : List Value} {m : xmm} {z : Int32 × xmm} (h : xtI (xHv i rk pc l st m) = some z) : xT i rk pc l st m (some (.int z.1), z.2) := xHv_iff.mp (xtI_some.mp h)
theorem xlfJ {i rk pc : Nat} {l : xL} {st : List Value} {m : xmm} {z : Int64 × xmm} (h : xtJ (xHv i rk pc l st m) = some z) : xT i rk pc l st m (some (.long z.1), z.2) := xHv_iff.mp (xtJ_some.mp h)
theorem xlfV {i rk pc : Nat} {l : xL} {st : List Value} {m : xmm} {z : xmm} (h : xtV (xHv i rk pc l st m) = some z) : xT i rk pc l st m (none, z) := xHv_iff.mp (xtV_some.mp h)
theorem xlfR {i rk pc : Nat} {l : xL} {st : List Value} {m : xmm} {z : Nat × xmm} (h : xtR (xHv i rk pc l st m) = some z) : xT i rk pc l st m (some (xvR z.1), z.2) := xHv_iff.mp (xtR_some.mp h)
theorem xstI {i rk pc : Nat} {l : xL} {st : List Value} {m : xmm} {z : Int32 × xmm} (h : xT i rk pc l st m (some (.int z.1), z.2)) : xtI (xHv i rk pc l st m) = some z := xtI_some.mpr (xHv_iff.mpr h)
theorem xstJ {i rk pc : Nat} {l : xL} {st : List Value} {m : xmm} {z : Int64 × xmm} (h : xT i rk pc l st m (some (.long z.1), z.2)) : xtJ (xHv i rk pc l st m) = some z := xtJ_some.mpr (xHv_iff.mpr h)
theorem xstV {i rk pc : Nat} {l : xL} {st : List Value} {m : xmm} {z : xmm} (h : xT i rk pc l st m (none, z)) : xtV (xHv i rk pc l st m) = some z := xtV_some.mpr (xHv_iff.mpr h)
theorem xstR {i rk pc : Nat} {l : xL} {st : List Value} {m : xmm} {z : Nat × xmm} (h : xT i rk pc l st m (some (xvR z.1), z.2)) : xtR (xHv i rk pc l st m) = some z := xtR_some.mpr (xHv_iff.mpr h)
theorem xT_ret {i rk pc n : Nat} {l : xL} {st : List Value} {m : xmm} {op : Instr} {v : Option Value} (hop : xop i pc = some (op, n)) (hn : (Nat.beq (xsz op) 0 || Nat.beq n (xsz op)) = true) (hd : ∀ M : xM, xdo i rk pc l st M 0 0 op = some (.inl (v, M))) : xT i rk pc l st m (v, m) := by
  intro M hM
  refine ⟨1, M, ?_, hM⟩
  show xF (xex 0) _ = _
  unfold xF
  rw [xact_of hop hn, hd M]
theorem e_retI {i rk pc : Nat} {l : xL} {m : xmm} {x : Int32} (hop : xop i pc = some (.ireturn, 1)) (hr : xretok (xrt i) x = true) : xT i rk pc l [.int x] m (some (.int x), m) := xT_ret hop rfl fun M => if_pos ⟨hr, Nat.zero_le _, Nat.zero_le _⟩
theorem e_retJ {i rk pc : Nat} {l : xL} {m : xmm} {x : Int64} (hop : xop i pc = some (.lreturn, 1)) (hr : xrt i = some .long) : xT i rk pc l [.long x] m (some (.long x), m) := xT_ret hop rfl fun M => if_pos ⟨hr, Nat.zero_le _, Nat.zero_le _⟩
theorem e_retR {i rk pc : Nat} {l : xL} {m : xmm} {x : Nat} (hop : xop i pc = some (.areturn, 1)) (hr : xrt i = some (.object "ArrowOrders$Net")) (hx : Nat.beq x 1999 = false) : xT i rk pc l [.ref x] m (some (.ref x), m) := xT_ret hop rfl fun M => if_pos ⟨Or.inl hr, xneq hx, Nat.zero_le _, Nat.zero_le _⟩
theorem e_retN {i rk pc : Nat} {l : xL} {m : xmm} (hop : xop i pc = some (.areturn, 1)) (hr : xrt i = some (.object "ArrowOrders$Net")) : xT i rk pc l [.null] m (some .null, m) := xT_ret hop rfl fun M => if_pos ⟨hr, Nat.zero_le _, Nat.zero_le _⟩
theorem e_retV {i rk pc : Nat} {l : xL} {m : xmm} (hop : xop i pc = some (.return_, 1)) (hr : xrt i = none) : xT i rk pc l [] m (none, m) := xT_ret hop rfl fun M => if_pos ⟨hr, Nat.zero_le _, Nat.zero_le _⟩
/-! calls -/
/-- what a call asks, by program -/
def xcg (i rk j : Nat) (vs rest : List Value) : Bool := Nat.blt (xrk j vs) rk && Nat.ble (xcat rest) 8 && Nat.ble (0 + xmc j) (xmc i) && Nat.ble (0 + xms j) (xms i) && xokc j vs && Nat.beq (xmc j) 0 && Nat.beq (xms j) 0
theorem xT_call {i rk pc j n : Nat} {l l2 : xL} {st vs rest : List Value} {m : xmm} {z r : xZ} {op : Instr} (hop : xop i pc = some (op, n)) (hn : (Nat.beq (xsz op) 0 || Nat.beq n (xsz op)) = true) (hg : xcg i rk j vs rest = true) (hd : ∀ M, xag M m → xdo i rk pc l st M 0 0 op = xcall i rk pc l vs rest M 0 0 j) (hc : xHm j vs m = some r) (hr : xrok (xrt j) r.1 = true) (hl : xnm i (pc + 3) l = l2) (h : xT i rk (pc + 3) l2 (r.1.toList ++ rest) r.2 z) : xT i rk pc l st m z := by
  unfold xcg at hg
  simp only [Bool.and_eq_true] at hg
  obtain ⟨⟨⟨⟨⟨⟨g1, g2⟩, g3⟩, g4⟩, g5⟩, g6⟩, g7⟩ := hg
  intro M hM
  obtain ⟨n1, M1, h1, h2⟩ := (xHv_iff.mp hc) M hM
  obtain ⟨n2, M2, h3, h4⟩ := h M1 h2
  refine ⟨max n1 n2 + 1, M2, ?_, h4⟩
  show xF (xex (max n1 n2)) _ = _
  unfold xF
  rw [xact_of hop hn, hd M hM]
  unfold xcall
  rw [if_pos ⟨Nat.le_of_ble_eq_true g1, Nat.le_of_ble_eq_true g2, Nat.le_of_ble_eq_true g3, Nat.le_of_ble_eq_true g4⟩]
  dsimp only
  rw [g5]
  show ((xex (max n1 n2) (xini (j, vs, M))).bind fun r => bif xrok (xrt j) r.1 then _ else none) = _
  have e1 : xex (max n1 n2) (xini (j, vs, M)) = some (r.1, M1) := xex_le h1 (Nat.le_max_left _ _)
  rw [e1]
  show (bif xrok (xrt j) r.1 then _ else none) = _
  rw [hr]
  show xex (max n1 n2) (i, rk, pc + 3, xnm i (pc + 3) l, r.1.toList ++ rest, M1, 0 + xmc j, 0 + xms j) = _
  rw [Nat.eq_of_beq_eq_true g6, Nat.eq_of_beq_eq_true g7, hl]
  exact xex_le h3 (Nat.le_max_right _ _)
theorem xdo_S0 {i rk pc q : Nat} {l : xL} {st : List Value} {M : xM} (hm : xmth (xow i) q = 0) : xdo i rk pc l st M 0 0 (.invokestatic q) = xinv 0 i rk pc q l st M 0 0 := by
  have e : xdo i rk pc l st M 0 0 (.invokestatic q) = (match xmth (xow i) q, st with
    | 0, st => xinv 0 i rk pc q l st M 0 0
    | 1, .int y :: .int x :: st => if rk = 0 ∨ 8 < xcat st then none else xgo i rk (pc + 3) l (.int (if x < y then y else x) :: st) M 0 0
    | 2, .int y :: .int x :: st => if rk = 0 ∨ 8 < xcat st then none else xgo i rk (pc + 3) l (.int (if y < x then y else x) :: st) M 0 0
    | _, _ => none) := rfl
  rw [e, hm]
  rcases st with _ | ⟨a, _ | ⟨b, st⟩⟩ <;> first | rfl | (cases a <;> first | rfl | (cases b <;> rfl))
theorem xdo_S {i rk pc q j ns : Nat} {l : xL} {st vs rest : List Value} {M : xM} (hm : xmth (xow i) q = 0) (hj : xcl (xow i) q = some (j, ns)) (hk : xki j = 0) (hs : st = vs.reverse ++ rest) (hv : vs.length = xna j) : xdo i rk pc l st M 0 0 (.invokestatic q) = xcall i rk pc l vs rest M 0 0 j := by
  rw [xdo_S0 hm]
  unfold xinv
  rw [hj]
  dsimp only
  rw [if_pos hk, if_pos rfl, if_pos (by rw [hs, List.length_append, List.length_reverse]; omega)]
  have e1 : st.take (xna j) = vs.reverse := by rw [hs, ← hv, ← List.length_reverse, List.take_left]
  have e2 : st.drop (xna j) = rest := by rw [hs, ← hv, ← List.length_reverse, List.drop_left]
  rw [e1, e2, List.reverse_reverse]
theorem xdo_V {i rk pc q j ns k : Nat} {l : xL} {st vs rest : List Value} {M : xM} {m : xmm} (hM : xag M m) (hj : xcl (xow i) q = some (j, ns)) (hk : xki j = 1) (hs : st = (.ref k :: vs : List Value).reverse ++ rest) (hv : vs.length + 1 = xna j) (hr : (xob k (xow j) || (Nat.ble 1000 k && Nat.blt k 1004 && Nat.beq (xow j) 15)) = true) : xdo i rk pc l st M 0 0 (.invokevirtual q) = xcall i rk pc l (.ref k :: vs) rest M 0 0 j := by
  show xinv 1 i rk pc q l st M 0 0 = _
  have hk9 : ¬ k = 1999 := by
    intro e
    subst e
    rcases Bool.or_eq_true_iff.mp hr with h | h
    · unfold xob at h; simp only [Bool.and_eq_true] at h; exact absurd (Nat.eq_of_beq_eq_true h.1) (by decide)
    · simp only [Bool.and_eq_true] at h
      exact absurd (Nat.le_of_ble_eq_true h.1.2) (by decide)
  unfold xinv
  rw [hj]
  dsimp only
  have e1 : st.take (xna j) = (.ref k :: vs : List Value).reverse := by rw [hs, ← hv, show vs.length + 1 = ((.ref k :: vs : List Value).reverse).length by rw [List.length_reverse]; rfl, List.take_left]
  have e2 : st.drop (xna j) = rest := by rw [hs, ← hv, show vs.length + 1 = ((.ref k :: vs : List Value).reverse).length by rw [List.length_reverse]; rfl, List.drop_left]
  rw [if_pos hk, if_neg (by decide), e1, e2, List.reverse_reverse]
  dsimp only
  refine if_pos ⟨by rw [hs, List.length_append, List.length_reverse, List.length_cons]; omega, hk9, Or.inr ?_⟩
  unfold xrcv
  rcases Bool.or_eq_true_iff.mp hr with h | h
  · rw [(xob_obj hM h).1]; rfl
  · rw [h]; exact Bool.or_true _

def xtyI (t : Option FieldType) : Bool := match t with
  | some .int => true
  | some .boolean => true
  | some .byte => true
  | some .char => true
  | _ => false
theorem xrokI {t : Option FieldType} (h : xtyI t = true) (x : Int32) : xrok t (some (.int x)) = true := by
  unfold xtyI at h
  split at h <;> first | rfl | cases h
theorem xrokR {t : Option FieldType} {s : String} (h : t = some (.object s)) (k : Nat) : xrok t (some (xvR k)) = true := by
  rw [h]; cases k <;> rfl
theorem e_cIS {i rk pc q j ns : Nat} {l l2 : xL} {st vs rest : List Value} {m : xmm} {z : xZ} {w : Int32 × xmm} (hop : xop i pc = some (.invokestatic q, 3)) (hm : xmth (xow i) q = 0) (hj : xcl (xow i) q = some (j, ns)) (hk : xki j = 0) (hs : st = vs.reverse ++ rest) (hv : vs.length = xna j) (hg : xcg i rk j vs rest = true) (ht : xtyI (xrt j) = true) (hc : xtI (xHm j vs m) = some w) (hl : xnm i (pc + 3) l = l2) (h : xT i rk (pc + 3) l2 (.int w.1 :: rest) w.2 z) : xT i rk pc l st m z := xT_call hop rfl hg (fun M hM => xdo_S hm hj hk hs hv) (xtI_some.mp hc) (xrokI ht _) hl h
theorem e_cIV {i rk pc q j ns k : Nat} {l l2 : xL} {st vs rest : List Value} {m : xmm} {z : xZ} {w : Int32 × xmm} (hop : xop i pc = some (.invokevirtual q, 3)) (hj : xcl (xow i) q = some (j, ns)) (hk : xki j = 1) (hs : st = (.ref k :: vs : List Value).reverse ++ rest) (hv : vs.length + 1 = xna j) (hrc : (xob k (xow j) || (Nat.ble 1000 k && Nat.blt k 1004 && Nat.beq (xow j) 15)) = true) (hg : xcg i rk j (.ref k :: vs) rest = true) (ht : xtyI (xrt j) = true) (hc : xtI (xHm j (.ref k :: vs) m) = some w) (hl : xnm i (pc + 3) l = l2) (h : xT i rk (pc + 3) l2 (.int w.1 :: rest) w.2 z) : xT i rk pc l st m z := xT_call hop rfl hg (fun M hM => xdo_V hM hj hk hs hv hrc) (xtI_some.mp hc) (xrokI ht _) hl h
theorem e_cJS {i rk pc q j ns : Nat} {l l2 : xL} {st vs rest : List Value} {m : xmm} {z : xZ} {w : Int64 × xmm} (hop : xop i pc = some (.invokestatic q, 3)) (hm : xmth (xow i) q = 0) (hj : xcl (xow i) q = some (j, ns)) (hk : xki j = 0) (hs : st = vs.reverse ++ rest) (hv : vs.length = xna j) (hg : xcg i rk j vs rest = true) (ht : xrt j = some .long) (hc : xtJ (xHm j vs m) = some w) (hl : xnm i (pc + 3) l = l2) (h : xT i rk (pc + 3) l2 (.long w.1 :: rest) w.2 z) : xT i rk pc l st m z := xT_call hop rfl hg (fun M hM => xdo_S hm hj hk hs hv) (xtJ_some.mp hc) (by rw [ht]; rfl) hl h
theorem e_cJV {i rk pc q j ns k : Nat} {l l2 : xL} {st vs rest : List Value} {m : xmm} {z : xZ} {w : Int64 × xmm} (hop : xop i pc = some (.invokevirtual q, 3)) (hj : xcl (xow i) q = some (j, ns)) (hk : xki j = 1) (hs : st = (.ref k :: vs : List Value).reverse ++ rest) (hv : vs.length + 1 = xna j) (hrc : (xob k (xow j) || (Nat.ble 1000 k && Nat.blt k 1004 && Nat.beq (xow j) 15)) = true) (hg : xcg i rk j (.ref k :: vs) rest = true) (ht : xrt j = some .long) (hc : xtJ (xHm j (.ref k :: vs) m) = some w) (hl : xnm i (pc + 3) l = l2) (h : xT i rk (pc + 3) l2 (.long w.1 :: rest) w.2 z) : xT i rk pc l st m z := xT_call hop rfl hg (fun M hM => xdo_V hM hj hk hs hv hrc) (xtJ_some.mp hc) (by rw [ht]; rfl) hl h
theorem e_cVS {i rk pc q j ns : Nat} {l l2 : xL} {st vs rest : List Value} {m : xmm} {z : xZ} {w : xmm} (hop : xop i pc = some (.invokestatic q, 3)) (hm : xmth (xow i) q = 0) (hj : xcl (xow i) q = some (j, ns)) (hk : xki j = 0) (hs : st = vs.reverse ++ rest) (hv : vs.length = xna j) (hg : xcg i rk j vs rest = true) (ht : xrt j = none) (hc : xtV (xHm j vs m) = some w) (hl : xnm i (pc + 3) l = l2) (h : xT i rk (pc + 3) l2 (rest) w z) : xT i rk pc l st m z := xT_call hop rfl hg (fun M hM => xdo_S hm hj hk hs hv) (xtV_some.mp hc) (by rw [ht]; rfl) hl h
theorem e_cVV {i rk pc q j ns k : Nat} {l l2 : xL} {st vs rest : List Value} {m : xmm} {z : xZ} {w : xmm} (hop : xop i pc = some (.invokevirtual q, 3)) (hj : xcl (xow i) q = some (j, ns)) (hk : xki j = 1) (hs : st = (.ref k :: vs : List Value).reverse ++ rest) (hv : vs.length + 1 = xna j) (hrc : (xob k (xow j) || (Nat.ble 1000 k && Nat.blt k 1004 && Nat.beq (xow j) 15)) = true) (hg : xcg i rk j (.ref k :: vs) rest = true) (ht : xrt j = none) (hc : xtV (xHm j (.ref k :: vs) m) = some w) (hl : xnm i (pc + 3) l = l2) (h : xT i rk (pc + 3) l2 (rest) w z) : xT i rk pc l st m z := xT_call hop rfl hg (fun M hM => xdo_V hM hj hk hs hv hrc) (xtV_some.mp hc) (by rw [ht]; rfl) hl h
theorem e_cRS {i rk pc q j ns : Nat} {l l2 : xL} {st vs rest : List Value} {m : xmm} {z : xZ} {w : Nat × xmm} (hop : xop i pc = some (.invokestatic q, 3)) (hm : xmth (xow i) q = 0) (hj : xcl (xow i) q = some (j, ns)) (hk : xki j = 0) (hs : st = vs.reverse ++ rest) (hv : vs.length = xna j) (hg : xcg i rk j vs rest = true) (ht : xrt j = some (.object "ArrowOrders$Net")) (hc : xtR (xHm j vs m) = some w) (hl : xnm i (pc + 3) l = l2) (h : xT i rk (pc + 3) l2 (xvR w.1 :: rest) w.2 z) : xT i rk pc l st m z := xT_call hop rfl hg (fun M hM => xdo_S hm hj hk hs hv) (xtR_some.mp hc) (xrokR ht _) hl h
theorem e_cRV {i rk pc q j ns k : Nat} {l l2 : xL} {st vs rest : List Value} {m : xmm} {z : xZ} {w : Nat × xmm} (hop : xop i pc = some (.invokevirtual q, 3)) (hj : xcl (xow i) q = some (j, ns)) (hk : xki j = 1) (hs : st = (.ref k :: vs : List Value).reverse ++ rest) (hv : vs.length + 1 = xna j) (hrc : (xob k (xow j) || (Nat.ble 1000 k && Nat.blt k 1004 && Nat.beq (xow j) 15)) = true) (hg : xcg i rk j (.ref k :: vs) rest = true) (ht : xrt j = some (.object "ArrowOrders$Net")) (hc : xtR (xHm j (.ref k :: vs) m) = some w) (hl : xnm i (pc + 3) l = l2) (h : xT i rk (pc + 3) l2 (xvR w.1 :: rest) w.2 z) : xT i rk pc l st m z := xT_call hop rfl hg (fun M hM => xdo_V hM hj hk hs hv hrc) (xtR_some.mp hc) (xrokR ht _) hl h
/-! the same, where something has been made before: cc cells, ss places -/
theorem xag_wn {M : xM} {m : xmm} (hM : xag M m) {n : Nat} (h9 : xctm m < 900) : xag (xpush M n) (xwn m n) := by
  obtain ⟨h1, h2, h3, h4⟩ := hM
  have hb := xctm_lt m
  have e0 : xnu M.2.2.2 = xctm m - 1 := by
    rw [h3]; unfold xnu; rw [if_neg (by omega)]
  refine ⟨?_, ?_, ?_, fun k i hk hi => ?_⟩
  · unfold xpush xwn
    rw [e0, h3, h1]
  · unfold xpush xwn
    rw [e0, h2]
  · show M.2.2.2 + 1 = _
    rw [h3]
    have e1 : (xwn m n).1 1995 0 = Int32.ofNat (xctm m - 144) := (if_neg (by omega)).trans ((if_neg (by omega)).trans (if_pos rfl))
    have e2 : xctm (xwn m n) = 145 + (xctm m - 144) % 800 := by
      unfold xctm at e1 ⊢
      rw [e1]
      rw [show Int32.ofNat (145 + (m.1 1995 0).toNatClampNeg % 800 - 144) = nI (145 + (m.1 1995 0).toNatClampNeg % 800 - 144) from rfl, nI_clamp (by have := Nat.mod_lt (m.1 1995 0).toNatClampNeg (show 0 < 800 by decide); omega)]
    rw [e2, Nat.mod_eq_of_lt (by omega)]
    omega
  · have hk : k < 144 := hk
    show (if k = xnu M.2.2.2 then 0 else M.2.2.1 k i) = _
    rw [if_neg (by omega)]
    exact h4 k i hk hi
theorem xir_in {M : xM} {m : xmm} (hM : xag M m) {k : Nat} {x : Int32} (h : xir m k x = true) : xin1 M 1 k x = true ∧ k < 1000 := by
  unfold xir at h
  simp only [Bool.and_eq_true] at h
  obtain ⟨⟨h1, h2⟩, h3, h4⟩ := h
  have hk := Nat.le_of_ble_eq_true h1
  have h2' : xsg k < xctm m := Nat.le_of_ble_eq_true h2
  refine ⟨?_, ?_⟩
  · unfold xin1
    rw [xkM_row hk, hM.1, hM.2.2.1]
    simp only [Bool.and_eq_true, beq_self_eq_true, true_and]
    exact ⟨⟨h2, h3⟩, h4⟩
  · have := (xctm_lt m).2
    unfold xsg at h2'
    split at h2' <;> omega
theorem e_rald {cc ss i rk pc k : Nat} {l l2 : xL} {st : List Value} {m : xmm} {z : xZ} {x : Int32} (hop : xop i pc = some (.iaload, 1)) (hi : xir m k x = true) (hl : xnm i (pc + 1) l = l2) (h : xTc cc ss i rk (pc + 1) l2 (.int (m.1 k x.toNatClampNeg) :: st) m z) : xTc cc ss i rk pc l (.int x :: .ref k :: st) m z := xT_s hop rfl (fun M hM => by
  show (match xald M k x with | some v => xgo i rk (pc + 1) l (.int v :: st) M cc ss | none => none) = _
  unfold xald
  rw [if_pos (xir_in hM hi).1, hM.1]) hl h
theorem e_rast {cc ss i rk pc k : Nat} {l l2 : xL} {st : List Value} {m : xmm} {z : xZ} {x v : Int32} (hop : xop i pc = some (.iastore, 1)) (hi : xir m k x = true) (hl : xnm i (pc + 1) l = l2) (h : xTc cc ss i rk (pc + 1) l2 st (xwi m k x.toNatClampNeg v) z) : xTc cc ss i rk pc l (.int v :: .int x :: .ref k :: st) m z := xT_w hop rfl (fun M hM => ⟨_, xag_si hM k _ (xir_in hM hi).2 v, if_pos (xir_in hM hi).1⟩) hl h
theorem e_ralen {cc ss i rk pc k : Nat} {l l2 : xL} {st : List Value} {m : xmm} {z : xZ} (hop : xop i pc = some (.arraylength, 1)) (hk : (Nat.ble 144 k && Nat.blt (xsg k) (xctm m)) = true) (hl : xnm i (pc + 1) l = l2) (h : xTc cc ss i rk (pc + 1) l2 (.int (Int32.ofNat (m.1 1996 k).toNatClampNeg) :: st) m z) : xTc cc ss i rk pc l (.ref k :: st) m z := xT_s hop rfl (fun M hM => by
  show (match xlen M k with | some v => xgo i rk (pc + 1) l (.int v :: st) M cc ss | none => none) = _
  rw [Bool.and_eq_true] at hk
  have e : xlen M k = some (Int32.ofNat (m.1 1996 k).toNatClampNeg) := by
    unfold xlen
    rw [xkM_row (Nat.le_of_ble_eq_true hk.1), hM.2.2.1, hM.1, hk.2]
    rfl
  rw [e]) hl h
theorem e_newa {cc ss c2 s2 i rk pc n : Nat} {l l2 : xL} {st : List Value} {m : xmm} {z : xZ} {x : Int32} (hop : xop i pc = some (.newarray .int, 2)) (hx : (decide (x.toNatClampNeg = n) && decide (¬ x < 0) && Nat.ble n 10000) = true) (h9 : Nat.blt (xctm m) 900 = true) (hc : cc + 1 = c2) (hs : ss + n = s2) (hcs : (Nat.ble c2 (xmc i) && Nat.ble s2 (xms i)) = true) (hl : xnm i (pc + 2) l = l2) (h : xTc c2 s2 i rk (pc + 2) l2 (.ref (xctm m - 1) :: st) (xwn m n) z) : xTc cc ss i rk pc l (.int x :: st) m z := by
  simp only [Bool.and_eq_true, decide_eq_true_eq] at hx hcs
  obtain ⟨⟨hx1, hx2⟩, hx3⟩ := hx
  have h9 : xctm m < 900 := Nat.le_of_ble_eq_true h9
  intro M hM
  have hM2 : xag (xpush M n) (xwn m n) := xag_wn hM h9
  have hb := xctm_lt m
  have e0 : xnu M.2.2.2 = xctm m - 1 := by
    rw [hM.2.2.1]; unfold xnu; rw [if_neg (by omega)]
  obtain ⟨n1, M1, g1, g2⟩ := h _ hM2
  refine ⟨n1 + 1, M1, ?_, g2⟩
  show xF (xex n1) _ = _
  unfold xF
  have e : xact (i, rk, pc, l, .int x :: st, M, cc, ss) = some (.inr (.inl (pc + 2, l2, .ref (xctm m - 1) :: st, xpush M n, c2, s2))) := by
    rw [xact_of hop rfl]
    show (if xatag .int < 9 ∧ (xkd (xnu M.2.2.2) = (xatag .int, x.toNatClampNeg) ∨ (144 ≤ xnu M.2.2.2 ∧ xatag .int = 1 ∧ M.2.2.2 < 900)) ∧ ¬ x < 0 ∧ cc + 1 ≤ xmc i ∧ ss + x.toNatClampNeg ≤ xms i ∧ x.toNatClampNeg ≤ 10000 then xgo i rk (pc + 2) l (.ref (xnu M.2.2.2) :: st) (xpush M x.toNatClampNeg) (cc + 1) (ss + x.toNatClampNeg) else none) = _
    rw [if_pos ⟨by decide, Or.inr ⟨by omega, rfl, by rw [hM.2.2.1]; exact h9⟩, hx2, by rw [hc]; exact Nat.le_of_ble_eq_true hcs.1, by rw [hx1, hs]; exact Nat.le_of_ble_eq_true hcs.2, by rw [hx1]; exact Nat.le_of_ble_eq_true hx3⟩, hx1, hc, hs, e0]
    unfold xgo
    rw [hl]
  rw [e]
  exact g1
theorem xT_retc {cc ss i rk pc n : Nat} {l : xL} {st : List Value} {m : xmm} {op : Instr} {v : Option Value} (hop : xop i pc = some (op, n)) (hn : (Nat.beq (xsz op) 0 || Nat.beq n (xsz op)) = true) (hd : ∀ M : xM, xdo i rk pc l st M cc ss op = some (.inl (v, M))) : xTc cc ss i rk pc l st m (v, m) := by
  intro M hM
  refine ⟨1, M, ?_, hM⟩
  show xF (xex 0) _ = _
  unfold xF
  rw [xact_of hop hn, hd M]
theorem xble2 {a b c d : Nat} (h : (Nat.ble a b && Nat.ble c d) = true) : a ≤ b ∧ c ≤ d := by
  rw [Bool.and_eq_true] at h
  exact ⟨Nat.le_of_ble_eq_true h.1, Nat.le_of_ble_eq_true h.2⟩
theorem e_retIc {cc ss i rk pc : Nat} {l : xL} {m : xmm} {x : Int32} (hop : xop i pc = some (.ireturn, 1)) (hr : xretok (xrt i) x = true) (hc : (Nat.ble cc (xmc i) && Nat.ble ss (xms i)) = true) : xTc cc ss i rk pc l [.int x] m (some (.int x), m) := xT_retc hop rfl fun M => if_pos ⟨hr, xble2 hc⟩
theorem e_retRc {cc ss i rk pc : Nat} {l : xL} {m : xmm} {x : Nat} (hop : xop i pc = some (.areturn, 1)) (hr : xrt i = some (.array .int)) (hx : Nat.beq x 1999 = false) (hc : (Nat.ble cc (xmc i) && Nat.ble ss (xms i)) = true) : xTc cc ss i rk pc l [.ref x] m (some (.ref x), m) := xT_retc hop rfl fun M => if_pos ⟨Or.inr hr, xneq hx, xble2 hc⟩
theorem xlfIc {cc ss i rk pc : Nat} {l : xL} {st : List Value} {m : xmm} {z : Int32 × xmm} (h : xtI (xHw cc ss i rk pc l st m) = some z) : xTc cc ss i rk pc l st m (some (.int z.1), z.2) := xHw_iff.mp (xtI_some.mp h)
theorem xlfRc {cc ss i rk pc : Nat} {l : xL} {st : List Value} {m : xmm} {z : Nat × xmm} (h : xtR (xHw cc ss i rk pc l st m) = some z) : xTc cc ss i rk pc l st m (some (xvR z.1), z.2) := xHw_iff.mp (xtR_some.mp h)
theorem xstIc {cc ss i rk pc : Nat} {l : xL} {st : List Value} {m : xmm} {z : Int32 × xmm} (h : xTc cc ss i rk pc l st m (some (.int z.1), z.2)) : xtI (xHw cc ss i rk pc l st m) = some z := xtI_some.mpr (xHw_iff.mpr h)
theorem xstRc {cc ss i rk pc : Nat} {l : xL} {st : List Value} {m : xmm} {z : Nat × xmm} (h : xTc cc ss i rk pc l st m (some (xvR z.1), z.2)) : xtR (xHw cc ss i rk pc l st m) = some z := xtR_some.mpr (xHw_iff.mpr h)
/-- what a call asks, by program -/
def xcgc (rk j : Nat) (vs rest : List Value) : Bool := Nat.blt (xrk j vs) rk && Nat.ble (xcat rest) 8 && xokc j vs
theorem xT_callc {cc ss c2 s2 i rk pc j n : Nat} {l l2 : xL} {st vs rest : List Value} {m : xmm} {z r : xZ} {op : Instr} (hop : xop i pc = some (op, n)) (hn : (Nat.beq (xsz op) 0 || Nat.beq n (xsz op)) = true) (hg : xcgc rk j vs rest = true) (hcc : cc + xmc j = c2) (hss : ss + xms j = s2) (hcs : (Nat.ble c2 (xmc i) && Nat.ble s2 (xms i)) = true) (hd : ∀ M, xag M m → xdo i rk pc l st M cc ss op = xcall i rk pc l vs rest M cc ss j) (hc : xHm j vs m = some r) (hr : xrok (xrt j) r.1 = true) (hl : xnm i (pc + 3) l = l2) (h : xTc c2 s2 i rk (pc + 3) l2 (r.1.toList ++ rest) r.2 z) : xTc cc ss i rk pc l st m z := by
  unfold xcgc at hg
  simp only [Bool.and_eq_true] at hg
  obtain ⟨⟨g1, g2⟩, g5⟩ := hg
  obtain ⟨g3, g4⟩ := xble2 hcs
  subst hcc
  subst hss
  intro M hM
  obtain ⟨n1, M1, h1, h2⟩ := (xHv_iff.mp hc) M hM
  obtain ⟨n2, M2, h3, h4⟩ := h M1 h2
  refine ⟨max n1 n2 + 1, M2, ?_, h4⟩
  show xF (xex (max n1 n2)) _ = _
  unfold xF
  rw [xact_of hop hn, hd M hM]
  unfold xcall
  rw [if_pos ⟨Nat.le_of_ble_eq_true g1, Nat.le_of_ble_eq_true g2, g3, g4⟩]
  dsimp only
  rw [g5]
  show ((xex (max n1 n2) (xini (j, vs, M))).bind fun r => bif xrok (xrt j) r.1 then _ else none) = _
  have e1 : xex (max n1 n2) (xini (j, vs, M)) = some (r.1, M1) := xex_le h1 (Nat.le_max_left _ _)
  rw [e1]
  show (bif xrok (xrt j) r.1 then _ else none) = _
  rw [hr]
  show xex (max n1 n2) (i, rk, pc + 3, xnm i (pc + 3) l, r.1.toList ++ rest, M1, cc + xmc j, ss + xms j) = _
  rw [hl]
  exact xex_le h3 (Nat.le_max_right _ _)
theorem xr1 {o : Option (Nat × xmm)} {w : Nat × xmm} {k : Nat} (h : o = some w) (hk : w.1 = k + 1) : o = some (k + 1, w.2) := by rw [h, ← hk]
theorem xadd0 {a b : Nat} (h : b = 0) : a + b = a := by rw [h, Nat.add_zero]
theorem xnz {y : Int32} (h : (!(decide (y = 0))) = true) : ¬ y = 0 := fun e => by rw [decide_eq_true e] at h; cases h
theorem xrokA {t : Option FieldType} {s : FieldType} (h : t = some (.array s)) (k : Nat) : xrok t (some (xvR (k + 1))) = true := by
  rw [h]; rfl
theorem xdo_S0c {cc ss i rk pc q : Nat} {l : xL} {st : List Value} {M : xM} (hm : xmth (xow i) q = 0) : xdo i rk pc l st M cc ss (.invokestatic q) = xinv 0 i rk pc q l st M cc ss := by
  have e : xdo i rk pc l st M cc ss (.invokestatic q) = (match xmth (xow i) q, st with
    | 0, st => xinv 0 i rk pc q l st M cc ss
    | 1, .int y :: .int x :: st => if rk = 0 ∨ 8 < xcat st then none else xgo i rk (pc + 3) l (.int (if x < y then y else x) :: st) M cc ss
    | 2, .int y :: .int x :: st => if rk = 0 ∨ 8 < xcat st then none else xgo i rk (pc + 3) l (.int (if y < x then y else x) :: st) M cc ss
    | _, _ => none) := rfl
  rw [e, hm]
  rcases st with _ | ⟨a, _ | ⟨b, st⟩⟩ <;> first | rfl | (cases a <;> first | rfl | (cases b <;> rfl))
theorem xdo_Sc {cc ss i rk pc q j ns : Nat} {l : xL} {st vs rest : List Value} {M : xM} (hm : xmth (xow i) q = 0) (hj : xcl (xow i) q = some (j, ns)) (hk : xki j = 0) (hs : st = vs.reverse ++ rest) (hv : vs.length = xna j) : xdo i rk pc l st M cc ss (.invokestatic q) = xcall i rk pc l vs rest M cc ss j := by
  rw [xdo_S0c hm]
  unfold xinv
  rw [hj]
  dsimp only
  rw [if_pos hk, if_pos rfl, if_pos (by rw [hs, List.length_append, List.length_reverse]; omega)]
  have e1 : st.take (xna j) = vs.reverse := by rw [hs, ← hv, ← List.length_reverse, List.take_left]
  have e2 : st.drop (xna j) = rest := by rw [hs, ← hv, ← List.length_reverse, List.drop_left]
  rw [e1, e2, List.reverse_reverse]
theorem xdo_Vc {cc ss i rk pc q j ns k : Nat} {l : xL} {st vs rest : List Value} {M : xM} {m : xmm} (hM : xag M m) (hj : xcl (xow i) q = some (j, ns)) (hk : xki j = 1) (hs : st = (.ref k :: vs : List Value).reverse ++ rest) (hv : vs.length + 1 = xna j) (hr : (xob k (xow j) || (Nat.ble 1000 k && Nat.blt k 1004 && Nat.beq (xow j) 15)) = true) : xdo i rk pc l st M cc ss (.invokevirtual q) = xcall i rk pc l (.ref k :: vs) rest M cc ss j := by
  show xinv 1 i rk pc q l st M cc ss = _
  have hk9 : ¬ k = 1999 := by
    intro e
    subst e
    rcases Bool.or_eq_true_iff.mp hr with h | h
    · unfold xob at h; simp only [Bool.and_eq_true] at h; exact absurd (Nat.eq_of_beq_eq_true h.1) (by decide)
    · simp only [Bool.and_eq_true] at h
      exact absurd (Nat.le_of_ble_eq_true h.1.2) (by decide)
  unfold xinv
  rw [hj]
  dsimp only
  have e1 : st.take (xna j) = (.ref k :: vs : List Value).reverse := by rw [hs, ← hv, show vs.length + 1 = ((.ref k :: vs : List Value).reverse).length by rw [List.length_reverse]; rfl, List.take_left]
  have e2 : st.drop (xna j) = rest := by rw [hs, ← hv, show vs.length + 1 = ((.ref k :: vs : List Value).reverse).length by rw [List.length_reverse]; rfl, List.drop_left]
  rw [if_pos hk, if_neg (by decide), e1, e2, List.reverse_reverse]
  dsimp only
  refine if_pos ⟨by rw [hs, List.length_append, List.length_reverse, List.length_cons]; omega, hk9, Or.inr ?_⟩
  unfold xrcv
  rcases Bool.or_eq_true_iff.mp hr with h | h
  · rw [(xob_obj hM h).1]; rfl
  · rw [h]; exact Bool.or_true _

theorem e_cISc {cc ss c2 s2 i rk pc q j ns : Nat} {l l2 : xL} {st vs rest : List Value} {m : xmm} {z : xZ} {w : Int32 × xmm} (hop : xop i pc = some (.invokestatic q, 3)) (hm : xmth (xow i) q = 0) (hj : xcl (xow i) q = some (j, ns)) (hk : xki j = 0) (hs : st = vs.reverse ++ rest) (hv : vs.length = xna j) (hg : xcgc rk j vs rest = true) (hcc : cc + xmc j = c2) (hss : ss + xms j = s2) (hcs : (Nat.ble c2 (xmc i) && Nat.ble s2 (xms i)) = true) (ht : xtyI (xrt j) = true) (hc : xtI (xHm j vs m) = some w) (hl : xnm i (pc + 3) l = l2) (h : xTc c2 s2 i rk (pc + 3) l2 (.int w.1 :: rest) w.2 z) : xTc cc ss i rk pc l st m z := xT_callc hop rfl hg hcc hss hcs (fun M hM => xdo_Sc hm hj hk hs hv) (xtI_some.mp hc) (xrokI ht _) hl h
theorem e_cIVc {cc ss c2 s2 i rk pc q j ns k : Nat} {l l2 : xL} {st vs rest : List Value} {m : xmm} {z : xZ} {w : Int32 × xmm} (hop : xop i pc = some (.invokevirtual q, 3)) (hj : xcl (xow i) q = some (j, ns)) (hk : xki j = 1) (hs : st = (.ref k :: vs : List Value).reverse ++ rest) (hv : vs.length + 1 = xna j) (hrc : (xob k (xow j) || (Nat.ble 1000 k && Nat.blt k 1004 && Nat.beq (xow j) 15)) = true) (hg : xcgc rk j (.ref k :: vs) rest = true) (hcc : cc + xmc j = c2) (hss : ss + xms j = s2) (hcs : (Nat.ble c2 (xmc i) && Nat.ble s2 (xms i)) = true) (ht : xtyI (xrt j) = true) (hc : xtI (xHm j (.ref k :: vs) m) = some w) (hl : xnm i (pc + 3) l = l2) (h : xTc c2 s2 i rk (pc + 3) l2 (.int w.1 :: rest) w.2 z) : xTc cc ss i rk pc l st m z := xT_callc hop rfl hg hcc hss hcs (fun M hM => xdo_Vc hM hj hk hs hv hrc) (xtI_some.mp hc) (xrokI ht _) hl h
theorem e_cVSc {cc ss c2 s2 i rk pc q j ns : Nat} {l l2 : xL} {st vs rest : List Value} {m : xmm} {z : xZ} {w : xmm} (hop : xop i pc = some (.invokestatic q, 3)) (hm : xmth (xow i) q = 0) (hj : xcl (xow i) q = some (j, ns)) (hk : xki j = 0) (hs : st = vs.reverse ++ rest) (hv : vs.length = xna j) (hg : xcgc rk j vs rest = true) (hcc : cc + xmc j = c2) (hss : ss + xms j = s2) (hcs : (Nat.ble c2 (xmc i) && Nat.ble s2 (xms i)) = true) (ht : xrt j = none) (hc : xtV (xHm j vs m) = some w) (hl : xnm i (pc + 3) l = l2) (h : xTc c2 s2 i rk (pc + 3) l2 (rest) w z) : xTc cc ss i rk pc l st m z := xT_callc hop rfl hg hcc hss hcs (fun M hM => xdo_Sc hm hj hk hs hv) (xtV_some.mp hc) (by rw [ht]; rfl) hl h
theorem e_cVVc {cc ss c2 s2 i rk pc q j ns k : Nat} {l l2 : xL} {st vs rest : List Value} {m : xmm} {z : xZ} {w : xmm} (hop : xop i pc = some (.invokevirtual q, 3)) (hj : xcl (xow i) q = some (j, ns)) (hk : xki j = 1) (hs : st = (.ref k :: vs : List Value).reverse ++ rest) (hv : vs.length + 1 = xna j) (hrc : (xob k (xow j) || (Nat.ble 1000 k && Nat.blt k 1004 && Nat.beq (xow j) 15)) = true) (hg : xcgc rk j (.ref k :: vs) rest = true) (hcc : cc + xmc j = c2) (hss : ss + xms j = s2) (hcs : (Nat.ble c2 (xmc i) && Nat.ble s2 (xms i)) = true) (ht : xrt j = none) (hc : xtV (xHm j (.ref k :: vs) m) = some w) (hl : xnm i (pc + 3) l = l2) (h : xTc c2 s2 i rk (pc + 3) l2 (rest) w z) : xTc cc ss i rk pc l st m z := xT_callc hop rfl hg hcc hss hcs (fun M hM => xdo_Vc hM hj hk hs hv hrc) (xtV_some.mp hc) (by rw [ht]; rfl) hl h
theorem e_cRSc {cc ss c2 s2 i rk pc q j ns k : Nat} {l l2 : xL} {st vs rest : List Value} {m m2 : xmm} {z : xZ} (hop : xop i pc = some (.invokestatic q, 3)) (hm : xmth (xow i) q = 0) (hj : xcl (xow i) q = some (j, ns)) (hk : xki j = 0) (hs : st = vs.reverse ++ rest) (hv : vs.length = xna j) (hg : xcgc rk j vs rest = true) (hcc : cc + xmc j = c2) (hss : ss + xms j = s2) (hcs : (Nat.ble c2 (xmc i) && Nat.ble s2 (xms i)) = true) (ht : xrt j = some (.array .int)) (hc : xtR (xHm j vs m) = some (k + 1, m2)) (hl : xnm i (pc + 3) l = l2) (h : xTc c2 s2 i rk (pc + 3) l2 (.ref k :: rest) m2 z) : xTc cc ss i rk pc l st m z := xT_callc hop rfl hg hcc hss hcs (fun M hM => xdo_Sc hm hj hk hs hv) (xtR_some.mp hc) (xrokA ht _) hl h
theorem e_max {cc ss i rk pc q : Nat} {l l2 : xL} {st : List Value} {m : xmm} {z : xZ} {x y : Int32} (hop : xop i pc = some (.invokestatic q, 3)) (hm : xmth (xow i) q = 1) (hg : (Nat.blt 0 rk && Nat.ble (xcat st) 8) = true) (hl : xnm i (pc + 3) l = l2) (h : xTc cc ss i rk (pc + 3) l2 (.int (if x < y then y else x) :: st) m z) : xTc cc ss i rk pc l (.int y :: .int x :: st) m z := xT_s hop rfl (fun M hM => by
  have e : xdo i rk pc l (.int y :: .int x :: st) M cc ss (.invokestatic q) = (match xmth (xow i) q, (.int y :: .int x :: st : List Value) with
    | 0, st => xinv 0 i rk pc q l st M cc ss
    | 1, .int y :: .int x :: st => if rk = 0 ∨ 8 < xcat st then none else xgo i rk (pc + 3) l (.int (if x < y then y else x) :: st) M cc ss
    | 2, .int y :: .int x :: st => if rk = 0 ∨ 8 < xcat st then none else xgo i rk (pc + 3) l (.int (if y < x then y else x) :: st) M cc ss
    | _, _ => none) := rfl
  rw [e, hm]
  rw [Bool.and_eq_true] at hg
  have h1 : 0 < rk := Nat.le_of_ble_eq_true hg.1
  have h2 := Nat.le_of_ble_eq_true hg.2
  exact if_neg (by omega)) hl h
theorem e_min {cc ss i rk pc q : Nat} {l l2 : xL} {st : List Value} {m : xmm} {z : xZ} {x y : Int32} (hop : xop i pc = some (.invokestatic q, 3)) (hm : xmth (xow i) q = 2) (hg : (Nat.blt 0 rk && Nat.ble (xcat st) 8) = true) (hl : xnm i (pc + 3) l = l2) (h : xTc cc ss i rk (pc + 3) l2 (.int (if y < x then y else x) :: st) m z) : xTc cc ss i rk pc l (.int y :: .int x :: st) m z := xT_s hop rfl (fun M hM => by
  have e : xdo i rk pc l (.int y :: .int x :: st) M cc ss (.invokestatic q) = (match xmth (xow i) q, (.int y :: .int x :: st : List Value) with
    | 0, st => xinv 0 i rk pc q l st M cc ss
    | 1, .int y :: .int x :: st => if rk = 0 ∨ 8 < xcat st then none else xgo i rk (pc + 3) l (.int (if x < y then y else x) :: st) M cc ss
    | 2, .int y :: .int x :: st => if rk = 0 ∨ 8 < xcat st then none else xgo i rk (pc + 3) l (.int (if y < x then y else x) :: st) M cc ss
    | _, _ => none) := rfl
  rw [e, hm]
  rw [Bool.and_eq_true] at hg
  have h1 : 0 < rk := Nat.le_of_ble_eq_true hg.1
  have h2 := Nat.le_of_ble_eq_true hg.2
  exact if_neg (by omega)) hl h
theorem xnb {b : Bool} (h : (!b) = true) : b = false := by cases b <;> first | rfl | cases h
theorem xor1 {k : Nat} {x : Int32} (h : xia 3 k x = true) : (xia 3 k x || xia 4 k x) = true := by rw [h]; rfl
theorem xor2 {k : Nat} {x : Int32} (h : xia 4 k x = true) : (xia 3 k x || xia 4 k x) = true := by rw [h]; exact Bool.or_true _
theorem xorb {a b : Bool} (h : a = true) : (a || b) = true := by rw [h]; rfl
