/-! An interpreter of the tables: one step (xact), n steps at most (xex), the limit (xEv). A reference is a number: below 1000 a cell that the law's calls have made, in their order; 1000 + j a string constant, 1010 + j its bytes, 1998 the script, 1999 a value that is only handed on. -/
abbrev xM : Type := (Nat → Nat → Int32) × (Nat → Nat → Int64) × (Nat → Nat → Nat) × Nat
abbrev xL : Type := List (Nat × Value)
abbrev xG : Type := Nat × Nat × Nat × xL × List Value × xM × Nat × Nat
abbrev xR : Type := Option Value × xM
abbrev xK : Type := Nat × xL × List Value × xM × Nat × Nat
abbrev xA : Type := Option (xR ⊕ (xK ⊕ ((Nat × List Value × xM) × (xR → Option xK))))
def xsi (M : xM) (k i : Nat) (v : Int32) : xM := (fun a b => if a = k ∧ b = i then v else M.1 a b, M.2)
def xsj (M : xM) (k i : Nat) (v : Int64) : xM := (M.1, fun a b => if a = k ∧ b = i then v else M.2.1 a b, M.2.2)
def xsr (M : xM) (k i : Nat) (v : Nat) : xM := (M.1, M.2.1, fun a b => if a = k ∧ b = i then v else M.2.2.1 a b, M.2.2.2)
/-- the place of a cell in the order of making: 999 is the law's first row, all others follow it -/
def xsg (k : Nat) : Nat := if k = 999 then 0 else k + 1
/-- the cell that is made next, when c are made -/
def xnu (c : Nat) : Nat := if c = 0 then 999 else c - 1
def xpush (M : xM) (n : Nat) : xM := (fun a b => if a = xnu M.2.2.2 then 0 else if a = 1996 ∧ b = xnu M.2.2.2 then Int32.ofNat n else if a = 1995 then Int32.ofNat (M.2.2.2 - 144) else M.1 a b, fun a b => if a = xnu M.2.2.2 then 0 else M.2.1 a b, fun a b => if a = xnu M.2.2.2 then 0 else M.2.2.1 a b, M.2.2.2 + 1)
/-- the kind of a cell: of the class's own by the table, else a row of ints, its length in the memory -/
def xkM (M : xM) (k : Nat) : Nat × Nat := bif Nat.blt k 144 then xkd k else (1, (M.1 1996 k).toNatClampNeg)
def xlk : xL → Nat → Option Value
  | [], _ => none
  | q :: l, i => bif Nat.beq q.1 i then some q.2 else xlk l i
def xst (l : xL) (i : Nat) (v : Value) : xL := (i, v) :: l.filter (fun q => !(q.1 == i) && !(q.1 + 1 == i && q.2.category == 2))
def xst2 (l : xL) (i : Nat) (v : Value) : xL := (i, v) :: l.filter (fun q => !(q.1 == i) && (!(q.1 == i + 1) && !(q.1 + 1 == i && q.2.category == 2)))
def xnm (i q : Nat) (l : xL) : xL := match xcut i q with
  | none => l
  | some ks => ks.filterMap (fun j => (xlk l j).map (fun v => (j, v)))
def xgo (i rk q : Nat) (l : xL) (st : List Value) (M : xM) (c s : Nat) : xA := some (.inr (.inl (q, xnm i q l, st, M, c, s)))
/-- a jump: its target isn't below 0 -/
def xjp (i rk pc : Nat) (off : Int) (l : xL) (st : List Value) (M : xM) (c s : Nat) : xA := match (pc : Int) + off with
  | .ofNat t => xgo i rk t l st M c s
  | .negSucc _ => none
def xcat (st : List Value) : Nat := (st.map fun v => v.category).sum
/-- an array of a kind at k holds place i -/
def xin1 (M : xM) (t k : Nat) (i : Int32) : Bool := (xkM M k).1 == t && Nat.blt (xsg k) M.2.2.2 && decide (0 ≤ i) && Nat.blt i.toNatClampNeg (xkM M k).2
def xstr : Nat → List Int32
  | 0 => [112, 111, 115, 116, 115]
  | 1 => [119, 97, 121]
  | 2 => [104, 101, 97, 112]
  | 3 => [99, 114, 111, 115, 115]
  | _ => []
def xald (M : xM) (k : Nat) (i : Int32) : Option Int32 :=
  if xin1 M 1 k i then some (M.1 k i.toNatClampNeg)
  else if k = 1998 ∧ 0 ≤ i ∧ i.toNatClampNeg < (M.1 1997 0).toNatClampNeg then some (M.1 1998 i.toNatClampNeg) else none
def xbld (M : xM) (k : Nat) (i : Int32) : Option Int32 :=
  if xin1 M 3 k i || xin1 M 4 k i then some (M.1 k i.toNatClampNeg)
  else if 1010 ≤ k ∧ k < 1014 ∧ 0 ≤ i then (xstr (k - 1010))[i.toNatClampNeg]? else none
def xlen (M : xM) (k : Nat) : Option Int32 :=
  if Nat.blt (xsg k) M.2.2.2 && !((xkM M k).1 == 0) then some (Int32.ofNat (xkM M k).2)
  else if k = 1998 then some (M.1 1997 0)
  else if 1010 ≤ k ∧ k < 1014 then some (Int32.ofNat (xstr (k - 1010)).length) else none
def xobj (M : xM) (k ci : Nat) : Bool := Nat.beq (xkd k).1 0 && Nat.beq (xkd k).2 ci && Nat.blt (xsg k) M.2.2.2
def xget (i q : Nat) (M : xM) (k : Nat) : Option Value := match xfl (xow i) q with
  | some (ci, j, c) =>
    if c < 2 then (if xobj M k ci then some (.int (M.1 k j)) else none)
    else if c < 4 then (if xobj M k ci then (match M.2.2.1 k j with
      | 0 => none
      | r + 1 => some (.ref r)) else none)
    else if c = 10 ∧ 1000 ≤ k ∧ k < 1004 then some (.ref (k + 10))
    else if c = 11 ∧ 1000 ≤ k ∧ k < 1004 then some (.int 0) else none
  | none => none
def xput (i q : Nat) (M : xM) (k : Nat) (v : Value) : Option xM := match xfl (xow i) q, v with
  | some (ci, j, c), .int x => if xobj M k ci ∧ (c = 0 ∨ (c = 1 ∧ (x = 0 ∨ x = 1))) then some (xsi M k j x) else none
  | some (ci, j, c), .ref r => if xobj M k ci ∧ xsg r < M.2.2.2 ∧ r < 1000 ∧ (c = 2 ∨ (c = 3 ∧ xki i = 2 ∧ xow i = ci)) then some (xsr M k j (r + 1)) else none
  | _, _ => none
/-- the class of a receiver -/
def xrcv (M : xM) (k ci : Nat) : Bool := xobj M k ci || (Nat.ble 1000 k && Nat.blt k 1004 && Nat.beq ci 15)
def xsw (lo : Int) (offs : List Int) (d : Int) (x : Int32) : Int := match offs with
  | [] => d
  | o :: os => if x = Int32.ofInt lo then o else xsw (lo + 1) os d x
def xretok (t : Option FieldType) (x : Int32) : Bool := match t with
  | some .int => true
  | some .boolean => x == 0 || x == 1
  | some .byte => x.toInt8.toInt32 == x
  | some .char => vp_nar .char x == x
  | _ => false
def xargs (vs : List Value) : xL := lv_args 0 vs
def xcall (i rk pc : Nat) (l : xL) (vs rest : List Value) (M : xM) (c s j : Nat) : xA :=
  if xrk j vs < rk ∧ xcat rest ≤ 8 ∧ c + xmc j ≤ xmc i ∧ s + xms j ≤ xms i then
    some (.inr (.inr ((j, vs, M), fun r => some (pc + 3, xnm i (pc + 3) l, r.1.toList ++ rest, r.2, c + xmc j, s + xms j))))
  else none
/-- a call: of nest mates or not, static, of an object, a constructor -/
def xinv (kind : Nat) (i rk pc q : Nat) (l : xL) (st : List Value) (M : xM) (c s : Nat) : xA := match xcl (xow i) q with
  | some (j, _) =>
    if xki j = kind then
      (if kind = 0 then (if xna j ≤ st.length then xcall i rk pc l (st.take (xna j)).reverse (st.drop (xna j)) M c s j else none)
      else match (st.take (xna j)).reverse with
        | .ref k :: vs => if xna j ≤ st.length ∧ ¬ k = 1999 ∧ (kind = 2 ∨ xrcv M k (xow j)) then xcall i rk pc l (.ref k :: vs) (st.drop (xna j)) M c s j else none
        | _ => none)
    else none
  | none => none
def xmth (o q : Nat) : Nat := match xcl o q with
  | some (j, _) => bif Nat.beq j xJmax then 1 else bif Nat.beq j xJmin then 2 else 0
  | none => 0
def xbr (i rk pc : Nat) (off : Int) (l : xL) (st : List Value) (M : xM) (c s : Nat) (b : Prop) [Decidable b] : xA := match (pc : Int) + off with
  | .ofNat t => if b then xgo i rk t l st M c s else xgo i rk (pc + 3) l st M c s
  | .negSucc _ => none
def xatag : ArrayType → Nat
  | .int => 1
  | .long => 2
  | .byte => 3
  | .boolean => 4
  | _ => 9
def xdo (i rk pc : Nat) (l : xL) (st : List Value) (M : xM) (c s : Nat) (op : Instr) : xA := match op, st with
  | .iconst v, st => xgo i rk (pc + 1) l (.int (Int32.ofInt v) :: st) M c s
  | .bipush v, st => xgo i rk (pc + 2) l (.int (Int8.ofInt v).toInt32 :: st) M c s
  | .sipush v, st => xgo i rk (pc + 3) l (.int (Int16.ofInt v).toInt32 :: st) M c s
  | .lconst v, st => xgo i rk (pc + 1) l (.long (Int64.ofNat (v : Nat)) :: st) M c s
  | .ldc q, st => match xkI (xow i) q, xkS (xow i) q with
    | some v, _ => xgo i rk (pc + 2) l (.int v :: st) M c s
    | none, some j => xgo i rk (pc + 2) l (.ref (1000 + j) :: st) M c s
    | none, none => none
  | .ldc_w q, st => match xkI (xow i) q with
    | some v => xgo i rk (pc + 3) l (.int v :: st) M c s
    | none => none
  | .ldc2_w q, st => match xkJ (xow i) q with
    | some v => xgo i rk (pc + 3) l (.long v :: st) M c s
    | none => none
  | .iload_n k, st => match xlk l (k : Nat) with
    | some (.int x) => xgo i rk (pc + 1) l (.int x :: st) M c s
    | _ => none
  | .iload k, st => match xlk l k with
    | some (.int x) => xgo i rk (pc + 2) l (.int x :: st) M c s
    | _ => none
  | .lload_n k, st => match xlk l (k : Nat) with
    | some (.long x) => xgo i rk (pc + 1) l (.long x :: st) M c s
    | _ => none
  | .lload k, st => match xlk l k with
    | some (.long x) => xgo i rk (pc + 2) l (.long x :: st) M c s
    | _ => none
  | .aload_n k, st => match xlk l (k : Nat) with
    | some (.ref x) => if x = 1999 then none else xgo i rk (pc + 1) l (.ref x :: st) M c s
    | some .null => xgo i rk (pc + 1) l (.null :: st) M c s
    | _ => none
  | .aload k, st => match xlk l k with
    | some (.ref x) => if x = 1999 then none else xgo i rk (pc + 2) l (.ref x :: st) M c s
    | some .null => xgo i rk (pc + 2) l (.null :: st) M c s
    | _ => none
  | .istore_n k, .int x :: st => if (k : Nat) < xml i then xgo i rk (pc + 1) (xst l k (.int x)) st M c s else none
  | .istore k, .int x :: st => if k < xml i then xgo i rk (pc + 2) (xst l k (.int x)) st M c s else none
  | .lstore_n k, .long x :: st => if (k : Nat) + 1 < xml i then xgo i rk (pc + 1) (xst2 l k (.long x)) st M c s else none
  | .lstore k, .long x :: st => if k + 1 < xml i then xgo i rk (pc + 2) (xst2 l k (.long x)) st M c s else none
  | .astore_n k, .ref x :: st => if (k : Nat) < xml i ∧ ¬ x = 1999 then xgo i rk (pc + 1) (xst l k (.ref x)) st M c s else none
  | .astore_n k, .null :: st => if (k : Nat) < xml i then xgo i rk (pc + 1) (xst l k .null) st M c s else none
  | .astore k, .ref x :: st => if k < xml i ∧ ¬ x = 1999 then xgo i rk (pc + 2) (xst l k (.ref x)) st M c s else none
  | .iinc k v, st => match xlk l k with
    | some (.int x) => if k < xml i then xgo i rk (pc + 3) (xst l k (.int (x + Int32.ofInt v))) st M c s else none
    | _ => none
  | .iadd, .int y :: .int x :: st => xgo i rk (pc + 1) l (.int (x + y) :: st) M c s
  | .isub, .int y :: .int x :: st => xgo i rk (pc + 1) l (.int (x - y) :: st) M c s
  | .imul, .int y :: .int x :: st => xgo i rk (pc + 1) l (.int (x * y) :: st) M c s
  | .iand, .int y :: .int x :: st => xgo i rk (pc + 1) l (.int (x &&& y) :: st) M c s
  | .ior, .int y :: .int x :: st => xgo i rk (pc + 1) l (.int (x ||| y) :: st) M c s
  | .ixor, .int y :: .int x :: st => xgo i rk (pc + 1) l (.int (x ^^^ y) :: st) M c s
  | .idiv, .int y :: .int x :: st => if y = 0 then none else xgo i rk (pc + 1) l (.int (x / y) :: st) M c s
  | .irem, .int y :: .int x :: st => if y = 0 then none else xgo i rk (pc + 1) l (.int (x - x / y * y) :: st) M c s
  | .ineg, .int x :: st => xgo i rk (pc + 1) l (.int (-x) :: st) M c s
  | .ishl, .int y :: .int x :: st => xgo i rk (pc + 1) l (.int (x <<< (y &&& 31)) :: st) M c s
  | .ishr, .int y :: .int x :: st => xgo i rk (pc + 1) l (.int (x >>> (y &&& 31)) :: st) M c s
  | .iushr, .int y :: .int x :: st => xgo i rk (pc + 1) l (.int (x.toUInt32 >>> (y.toUInt32 &&& Int32.toUInt32 31)).toInt32 :: st) M c s
  | .ladd, .long y :: .long x :: st => xgo i rk (pc + 1) l (.long (x + y) :: st) M c s
  | .lsub, .long y :: .long x :: st => xgo i rk (pc + 1) l (.long (x - y) :: st) M c s
  | .lmul, .long y :: .long x :: st => xgo i rk (pc + 1) l (.long (x * y) :: st) M c s
  | .lor, .long y :: .long x :: st => xgo i rk (pc + 1) l (.long (x ||| y) :: st) M c s
  | .lshl, .int y :: .long x :: st => xgo i rk (pc + 1) l (.long (x <<< (y.toInt64 &&& 63)) :: st) M c s
  | .lcmp, .long y :: .long x :: st => xgo i rk (pc + 1) l (.int (lg_cmp x y) :: st) M c s
  | .i2l, .int x :: st => xgo i rk (pc + 1) l (.long x.toInt64 :: st) M c s
  | .l2i, .long x :: st => xgo i rk (pc + 1) l (.int x.toInt32 :: st) M c s
  | .i2b, .int x :: st => xgo i rk (pc + 1) l (.int x.toInt8.toInt32 :: st) M c s
  | .i2c, .int x :: st => xgo i rk (pc + 1) l (.int (x.toUInt32 % 65536).toInt32 :: st) M c s
  | .dup, v :: st => if v.category = 1 then xgo i rk (pc + 1) l (v :: v :: st) M c s else none
  | .dup2, v :: w :: st => if v.category = 1 ∧ w.category = 1 then xgo i rk (pc + 1) l (v :: w :: v :: w :: st) M c s else none
  | .pop, v :: st => if v.category = 1 then xgo i rk (pc + 1) l st M c s else none
  | .ifCond .eq o, .int x :: st => xbr i rk pc o l st M c s (x = 0)
  | .ifCond .ne o, .int x :: st => xbr i rk pc o l st M c s (¬ x = 0)
  | .ifCond .lt o, .int x :: st => xbr i rk pc o l st M c s (x < 0)
  | .ifCond .ge o, .int x :: st => xbr i rk pc o l st M c s (0 ≤ x)
  | .ifCond .gt o, .int x :: st => xbr i rk pc o l st M c s (0 < x)
  | .ifCond .le o, .int x :: st => xbr i rk pc o l st M c s (x ≤ 0)
  | .if_icmp .eq o, .int y :: .int x :: st => xbr i rk pc o l st M c s (x = y)
  | .if_icmp .ne o, .int y :: .int x :: st => xbr i rk pc o l st M c s (¬ x = y)
  | .if_icmp .lt o, .int y :: .int x :: st => xbr i rk pc o l st M c s (x < y)
  | .if_icmp .ge o, .int y :: .int x :: st => xbr i rk pc o l st M c s (y ≤ x)
  | .if_icmp .gt o, .int y :: .int x :: st => xbr i rk pc o l st M c s (y < x)
  | .if_icmp .le o, .int y :: .int x :: st => xbr i rk pc o l st M c s (x ≤ y)
  | .ifnonnull o, .ref x :: st => if x = 1999 then none else xjp i rk pc o l st M c s
  | .ifnonnull _, .null :: st => xgo i rk (pc + 3) l st M c s
  | .goto o, st => xjp i rk pc o l st M c s
  | .tableswitch d lo hi offs, .int x :: st => if lo + offs.toList.length = hi + 1 ∧ -1000 ≤ lo ∧ hi ≤ 1000 ∧ lo ≤ hi then xjp i rk pc (xsw lo offs.toList d x) l st M c s else none
  | .iaload, .int x :: .ref k :: st => match xald M k x with
    | some v => xgo i rk (pc + 1) l (.int v :: st) M c s
    | none => none
  | .baload, .int x :: .ref k :: st => match xbld M k x with
    | some v => xgo i rk (pc + 1) l (.int v :: st) M c s
    | none => none
  | .laload, .int x :: .ref k :: st => if xin1 M 2 k x then xgo i rk (pc + 1) l (.long (M.2.1 k x.toNatClampNeg) :: st) M c s else none
  | .aaload, .int x :: .ref k :: st => if xin1 M 5 k x then (match M.2.2.1 k x.toNatClampNeg with
      | 0 => none
      | r + 1 => xgo i rk (pc + 1) l (.ref r :: st) M c s) else none
  | .iastore, .int v :: .int x :: .ref k :: st => if xin1 M 1 k x then xgo i rk (pc + 1) l st (xsi M k x.toNatClampNeg v) c s else none
  | .bastore, .int v :: .int x :: .ref k :: st => if xin1 M 3 k x then xgo i rk (pc + 1) l st (xsi M k x.toNatClampNeg v.toInt8.toInt32) c s
      else if xin1 M 4 k x ∧ (v = 0 ∨ v = 1) then xgo i rk (pc + 1) l st (xsi M k x.toNatClampNeg v) c s else none
  | .lastore, .long v :: .int x :: .ref k :: st => if xin1 M 2 k x then xgo i rk (pc + 1) l st (xsj M k x.toNatClampNeg v) c s else none
  | .aastore, .ref r :: .int x :: .ref k :: st => if xin1 M 5 k x ∧ xobj M r 3 ∧ r < 1000 then xgo i rk (pc + 1) l st (xsr M k x.toNatClampNeg (r + 1)) c s else none
  | .arraylength, .ref k :: st => match xlen M k with
    | some v => xgo i rk (pc + 1) l (.int v :: st) M c s
    | none => none
  | .aconst_null, st => xgo i rk (pc + 1) l (.null :: st) M c s
  | .getfield q, .ref k :: st => match xget i q M k with
    | some v => xgo i rk (pc + 3) l (v :: st) M c s
    | none => none
  | .putfield q, v :: .ref k :: st => match xput i q M k v with
    | some M' => xgo i rk (pc + 3) l st M' c s
    | none => none
  | .getstatic q, st => match xfl (xow i) q with
    | some (_, _, d) => if d = 12 then xgo i rk (pc + 3) l (.int 1 :: st) M c s else if d = 13 then xgo i rk (pc + 3) l (.ref 1999 :: st) M c s else none
    | none => none
  | .new q, st => match xnw (xow i) q with
    | some ci => if xkd (xnu M.2.2.2) = (0, ci) ∧ c + 1 ≤ xmc i ∧ s + xnsl ci ≤ xms i then xgo i rk (pc + 3) l (.ref (xnu M.2.2.2) :: st) (xpush M 0) (c + 1) (s + xnsl ci) else none
    | none => none
  | .newarray ty, .int x :: st => if xatag ty < 9 ∧ (xkd (xnu M.2.2.2) = (xatag ty, x.toNatClampNeg) ∨ (144 ≤ xnu M.2.2.2 ∧ xatag ty = 1 ∧ M.2.2.2 < 900)) ∧ ¬ x < 0 ∧ c + 1 ≤ xmc i ∧ s + x.toNatClampNeg ≤ xms i ∧ x.toNatClampNeg ≤ 10000 then xgo i rk (pc + 2) l (.ref (xnu M.2.2.2) :: st) (xpush M x.toNatClampNeg) (c + 1) (s + x.toNatClampNeg) else none
  | .anewarray q, .int x :: st => if xnw (xow i) q = some 3 ∧ xkd (xnu M.2.2.2) = (5, x.toNatClampNeg) ∧ ¬ x < 0 ∧ c + 1 ≤ xmc i ∧ s + x.toNatClampNeg ≤ xms i ∧ x.toNatClampNeg ≤ 10000 then xgo i rk (pc + 3) l (.ref (xnu M.2.2.2) :: st) (xpush M 0) (c + 1) (s + x.toNatClampNeg) else none
  | .invokestatic q, st => match xmth (xow i) q, st with
    | 0, st => xinv 0 i rk pc q l st M c s
    | 1, .int y :: .int x :: st => if rk = 0 ∨ 8 < xcat st then none else xgo i rk (pc + 3) l (.int (if x < y then y else x) :: st) M c s
    | 2, .int y :: .int x :: st => if rk = 0 ∨ 8 < xcat st then none else xgo i rk (pc + 3) l (.int (if y < x then y else x) :: st) M c s
    | _, _ => none
  | .invokevirtual q, st => xinv 1 i rk pc q l st M c s
  | .invokespecial q, st => if xoi (xow i) q then (match st with
      | .ref k :: st => if k = 1999 ∨ rk = 0 ∨ 8 < xcat st then none else xgo i rk (pc + 3) l st M c s
      | _ => none) else xinv 2 i rk pc q l st M c s
  | .ireturn, [.int x] => if xretok (xrt i) x ∧ c ≤ xmc i ∧ s ≤ xms i then some (.inl (some (.int x), M)) else none
  | .lreturn, [.long x] => if xrt i = some .long ∧ c ≤ xmc i ∧ s ≤ xms i then some (.inl (some (.long x), M)) else none
  | .areturn, [.ref k] => if (xrt i = some (.object "ArrowOrders$Net") ∨ xrt i = some (.array .int)) ∧ ¬ k = 1999 ∧ c ≤ xmc i ∧ s ≤ xms i then some (.inl (some (.ref k), M)) else none
  | .areturn, [.null] => if xrt i = some (.object "ArrowOrders$Net") ∧ c ≤ xmc i ∧ s ≤ xms i then some (.inl (some .null, M)) else none
  | .return_, [] => if xrt i = none ∧ c ≤ xmc i ∧ s ≤ xms i then some (.inl (none, M)) else none
  | _, _ => none
/-- how many bytes an instruction has (0: whatever) -/
def xsz : Instr → Nat
  | .bipush _ | .iload _ | .lload _ | .aload _ | .istore _ | .lstore _ | .astore _ | .ldc _ | .newarray _ => 2
  | .sipush _ | .ldc_w _ | .ldc2_w _ | .ifCond _ _ | .if_icmp _ _ | .ifnonnull _ | .goto _ | .getfield _ | .putfield _ | .getstatic _ | .new _ | .anewarray _ | .invokestatic _ | .invokevirtual _ | .invokespecial _ | .iinc _ _ => 3
  | .tableswitch _ _ _ _ => 0
  | _ => 1
def xact (g : xG) : xA := match g with
  | (i, rk, pc, l, st, M, c, s) => match xop i pc with
    | some (op, n) => bif Nat.beq (xsz op) 0 || Nat.beq n (xsz op) then xdo i rk pc l st M c s op else none
    | none => none
def xini (a : Nat × List Value × xM) : xG := (a.1, xrk a.1 a.2.1, 0, xnm a.1 0 (xargs a.2.1), [], a.2.2, 0, 0)
/-- what is called: a method of the tables, not max or min, its arguments fit -/
def xokc (j : Nat) (vs : List Value) : Bool := Nat.blt j xJL && !(Nat.beq j xJmax) && !(Nat.beq j xJmin) && Nat.ble (xcat vs) (xml j)
/-- an answer is of its method's kind -/
def xrok (t : Option FieldType) (v : Option Value) : Bool := match t, v with
  | none, none => true
  | some .int, some (.int _) => true
  | some .boolean, some (.int _) => true
  | some .byte, some (.int _) => true
  | some .char, some (.int _) => true
  | some .long, some (.long _) => true
  | some (.object _), some (.ref _) => true
  | some (.array _), some (.ref _) => true
  | some (.object _), some .null => true
  | _, _ => false
def xF (self : xG → Option xR) (g : xG) : Option xR := match xact g with
  | none => none
  | some (.inl r) => some r
  | some (.inr (.inl q)) => self (g.1, g.2.1, q)
  | some (.inr (.inr (a, k))) => bif xokc a.1 a.2.1 then (self (xini a)).bind fun r => bif xrok (xrt a.1) r.1 then (k r).bind fun q => self (g.1, g.2.1, q) else none else none
def xex : Nat → xG → Option xR
  | 0, _ => none
  | n + 1, g => xF (xex n) g
