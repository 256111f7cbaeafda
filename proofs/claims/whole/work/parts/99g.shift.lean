/-! the law's loop makes nothing: a run of it with nothing counted yet is one with all counted -/
def zsR (C S : Nat) (A A' : xA) : Prop := match A with
  | none => True
  | some (.inl r) => A' = some (.inl r)
  | some (.inr (.inl (q, l, st, M, c, s))) => A' = some (.inr (.inl (q, l, st, M, C, S))) ∧ c = 0 ∧ s = 0 ∧ 18 ≤ q ∧ q < 1000
  | some (.inr (.inr (a, k))) => ∃ k', A' = some (.inr (.inr (a, k'))) ∧ ∀ r Q, k r = some Q → k' r = some (Q.1, Q.2.1, Q.2.2.1, Q.2.2.2.1, C, S) ∧ Q.2.2.2.2.1 = 0 ∧ Q.2.2.2.2.2 = 0 ∧ 18 ≤ Q.1 ∧ Q.1 < 1000
def zin (q : Nat) : Bool := Nat.ble 18 q && Nat.blt q 1000
theorem zin_s {q : Nat} (h : zin q = true) : 18 ≤ q ∧ q < 1000 := by
  unfold zin at h
  rw [Bool.and_eq_true] at h
  exact ⟨Nat.le_of_ble_eq_true h.1, Nat.blt_eq.mp h.2⟩
def ziI (x : Int) : Bool := match x with
  | .ofNat t => zin t
  | .negSucc _ => true
theorem zsgo {C S i rk q : Nat} {l : xL} {st : List Value} {M : xM} (h : zin q = true) : zsR C S (xgo i rk q l st M 0 0) (xgo i rk q l st M C S) := ⟨rfl, rfl, rfl, (zin_s h).1, (zin_s h).2⟩
theorem zsite {C S : Nat} {p p' : Prop} [Decidable p] [Decidable p'] {A A' B' : xA} (hp : p → p') (h : zsR C S A A') : zsR C S (if p then A else none) (if p' then A' else B') := by
  by_cases g : p
  · rw [if_pos g, if_pos (hp g)]; exact h
  · rw [if_neg g]; exact True.intro
theorem zsjp {C S i rk pc : Nat} {l : xL} {st : List Value} {M : xM} {off : Int} (h : ziI ((pc : Int) + off) = true) : zsR C S (xjp i rk pc off l st M 0 0) (xjp i rk pc off l st M C S) := by
  unfold xjp
  generalize (pc : Int) + off = x at h
  cases x with
  | ofNat t => exact zsgo (rk := rk) h
  | negSucc _ => exact True.intro
theorem zsbr {C S i rk pc : Nat} {l : xL} {st : List Value} {M : xM} {off : Int} {p : Prop} [Decidable p] (h : ziI ((pc : Int) + off) = true) (h3 : zin (pc + 3) = true) : zsR C S (xbr i rk pc off l st M 0 0 p) (xbr i rk pc off l st M C S p) := by
  unfold xbr
  generalize (pc : Int) + off = x at h
  cases x with
  | ofNat t =>
    show zsR C S (if p then xgo i rk t l st M 0 0 else xgo i rk (pc + 3) l st M 0 0) (if p then xgo i rk t l st M C S else xgo i rk (pc + 3) l st M C S)
    by_cases g : p
    · rw [if_pos g, if_pos g]; exact zsgo (rk := rk) h
    · rw [if_neg g, if_neg g]; exact zsgo h3
  | negSucc _ => exact True.intro
theorem xsw_m {d : Int} {x : Int32} : ∀ (offs : List Int) (lo : Int), xsw lo offs d x = d ∨ xsw lo offs d x ∈ offs
  | [], lo => Or.inl rfl
  | o :: os, lo => by
    show (if x = Int32.ofInt lo then o else xsw (lo + 1) os d x) = d ∨ (if x = Int32.ofInt lo then o else xsw (lo + 1) os d x) ∈ o :: os
    by_cases g : x = Int32.ofInt lo
    · rw [if_pos g]; exact Or.inr List.mem_cons_self
    · rw [if_neg g]
      exact (xsw_m os (lo + 1)).imp id (List.mem_cons_of_mem _)
theorem zscall {C S i rk pc : Nat} {l : xL} {M : xM} {vs rest : List Value} {j : Nat} (hC : C ≤ xmc i) (hS : S ≤ xms i) (h0 : xmc j = 0) (h1 : xms j = 0) (h3 : zin (pc + 3) = true) : zsR C S (xcall i rk pc l vs rest M 0 0 j) (xcall i rk pc l vs rest M C S j) := by
  unfold xcall
  rw [h0, h1]
  refine zsite (fun t => ⟨t.1, t.2.1, hC, hS⟩) ⟨_, rfl, fun r Q h => ?_⟩
  cases h
  exact ⟨rfl, rfl, rfl, (zin_s h3).1, (zin_s h3).2⟩
/-- the instructions of the law's loop, where they lead -/
def zok2 (i pc : Nat) : Instr → Bool
  | .iconst _ | .iload_n _ | .aload_n _ | .iadd | .isub | .iand | .iaload | .arraylength => zin (pc + 1)
  | .bipush _ => zin (pc + 2)
  | .iinc _ _ => zin (pc + 3)
  | .if_icmp .eq o => ziI ((pc : Int) + o) && zin (pc + 3)
  | .if_icmp .gt o => ziI ((pc : Int) + o) && zin (pc + 3)
  | .goto o => ziI ((pc : Int) + o)
  | .tableswitch d _ _ offs => ziI ((pc : Int) + d) && offs.toList.all (fun o => ziI ((pc : Int) + o))
  | .ireturn => true
  | .invokevirtual q => zin (pc + 3) && (match xcl (xow i) q with
    | some (j, _) => Nat.beq (xmc j) 0 && Nat.beq (xms j) 0
    | none => true)
  | _ => false
theorem zs_iconst {C S i rk pc : Nat} {l : xL} {st : List Value} {M : xM} (hC : C ≤ xmc i) (hS : S ≤ xms i) (v : Int) (h : zok2 i pc (.iconst v) = true) : zsR C S (xdo i rk pc l st M 0 0 (.iconst v)) (xdo i rk pc l st M C S (.iconst v)) := by
  exact zsgo (rk := rk) h
theorem zs_bipush {C S i rk pc : Nat} {l : xL} {st : List Value} {M : xM} (hC : C ≤ xmc i) (hS : S ≤ xms i) (v : Int) (h : zok2 i pc (.bipush v) = true) : zsR C S (xdo i rk pc l st M 0 0 (.bipush v)) (xdo i rk pc l st M C S (.bipush v)) := by
  exact zsgo (rk := rk) h
theorem zs_iload_n {C S i rk pc : Nat} {l : xL} {st : List Value} {M : xM} (hC : C ≤ xmc i) (hS : S ≤ xms i) (k : Fin 4) (h : zok2 i pc (.iload_n k) = true) : zsR C S (xdo i rk pc l st M 0 0 (.iload_n k)) (xdo i rk pc l st M C S (.iload_n k)) := by
  show zsR C S (match xlk l (k : Nat) with
    | some (.int x) => xgo i rk (pc + 1) l (.int x :: st) M 0 0
    | _ => none) (match xlk l (k : Nat) with
    | some (.int x) => xgo i rk (pc + 1) l (.int x :: st) M C S
    | _ => none)
  rcases xlk l (k : Nat) with _ | v
  · exact True.intro
  · cases v <;> first | exact True.intro | exact zsgo (rk := rk) h
theorem zs_aload_n {C S i rk pc : Nat} {l : xL} {st : List Value} {M : xM} (hC : C ≤ xmc i) (hS : S ≤ xms i) (k : Fin 4) (h : zok2 i pc (.aload_n k) = true) : zsR C S (xdo i rk pc l st M 0 0 (.aload_n k)) (xdo i rk pc l st M C S (.aload_n k)) := by
  show zsR C S (match xlk l (k : Nat) with
    | some (.ref x) => if x = 1999 then none else xgo i rk (pc + 1) l (.ref x :: st) M 0 0
    | some .null => xgo i rk (pc + 1) l (.null :: st) M 0 0
    | _ => none) (match xlk l (k : Nat) with
    | some (.ref x) => if x = 1999 then none else xgo i rk (pc + 1) l (.ref x :: st) M C S
    | some .null => xgo i rk (pc + 1) l (.null :: st) M C S
    | _ => none)
  rcases xlk l (k : Nat) with _ | v
  · exact True.intro
  · cases v with
    | ref x =>
      show zsR C S (if x = 1999 then none else xgo i rk (pc + 1) l (.ref x :: st) M 0 0) (if x = 1999 then none else xgo i rk (pc + 1) l (.ref x :: st) M C S)
      by_cases g : x = 1999
      · rw [if_pos g]; exact True.intro
      · rw [if_neg g, if_neg g]; exact zsgo (rk := rk) h
    | null => exact zsgo (rk := rk) h
    | int _ => exact True.intro
    | long _ => exact True.intro
    | float _ => exact True.intro
    | double _ => exact True.intro
    | retAddr _ => exact True.intro
theorem zs_iinc {C S i rk pc : Nat} {l : xL} {st : List Value} {M : xM} (hC : C ≤ xmc i) (hS : S ≤ xms i) (k : Nat) (v : Int) (h : zok2 i pc (.iinc k v) = true) : zsR C S (xdo i rk pc l st M 0 0 (.iinc k v)) (xdo i rk pc l st M C S (.iinc k v)) := by
  show zsR C S (match xlk l k with
    | some (.int x) => if k < xml i then xgo i rk (pc + 3) (xst l k (.int (x + Int32.ofInt v))) st M 0 0 else none
    | _ => none) (match xlk l k with
    | some (.int x) => if k < xml i then xgo i rk (pc + 3) (xst l k (.int (x + Int32.ofInt v))) st M C S else none
    | _ => none)
  rcases xlk l k with _ | v
  · exact True.intro
  · cases v <;> first | exact True.intro | exact zsite id (zsgo h)
theorem zs_iadd {C S i rk pc : Nat} {l : xL} {st : List Value} {M : xM} (hC : C ≤ xmc i) (hS : S ≤ xms i) (h : zok2 i pc .iadd = true) : zsR C S (xdo i rk pc l st M 0 0 .iadd) (xdo i rk pc l st M C S .iadd) := by
  rcases st with _ | ⟨v, st⟩
  · exact True.intro
  · rcases st with _ | ⟨w, st⟩
    · cases v <;> exact True.intro
    · cases v <;> cases w <;> first | exact True.intro | exact zsgo (rk := rk) h
theorem zs_isub {C S i rk pc : Nat} {l : xL} {st : List Value} {M : xM} (hC : C ≤ xmc i) (hS : S ≤ xms i) (h : zok2 i pc .isub = true) : zsR C S (xdo i rk pc l st M 0 0 .isub) (xdo i rk pc l st M C S .isub) := by
  rcases st with _ | ⟨v, st⟩
  · exact True.intro
  · rcases st with _ | ⟨w, st⟩
    · cases v <;> exact True.intro
    · cases v <;> cases w <;> first | exact True.intro | exact zsgo (rk := rk) h
theorem zs_iand {C S i rk pc : Nat} {l : xL} {st : List Value} {M : xM} (hC : C ≤ xmc i) (hS : S ≤ xms i) (h : zok2 i pc .iand = true) : zsR C S (xdo i rk pc l st M 0 0 .iand) (xdo i rk pc l st M C S .iand) := by
  rcases st with _ | ⟨v, st⟩
  · exact True.intro
  · rcases st with _ | ⟨w, st⟩
    · cases v <;> exact True.intro
    · cases v <;> cases w <;> first | exact True.intro | exact zsgo (rk := rk) h
theorem zs_iaload {C S i rk pc : Nat} {l : xL} {st : List Value} {M : xM} (hC : C ≤ xmc i) (hS : S ≤ xms i) (h : zok2 i pc .iaload = true) : zsR C S (xdo i rk pc l st M 0 0 .iaload) (xdo i rk pc l st M C S .iaload) := by
  have g : ∀ (x : Int32) (k : Nat) (st : List Value), zsR C S (match xald M k x with
    | some v => xgo i rk (pc + 1) l (.int v :: st) M 0 0
    | none => none) (match xald M k x with
    | some v => xgo i rk (pc + 1) l (.int v :: st) M C S
    | none => none) := by
    intro x k st
    cases xald M k x with
    | none => exact True.intro
    | some v => exact zsgo (rk := rk) h
  rcases st with _ | ⟨v, st⟩
  · exact True.intro
  · rcases st with _ | ⟨w, st⟩
    · cases v <;> exact True.intro
    · cases v <;> cases w <;> first | exact True.intro | exact g _ _ st
theorem zs_arraylength {C S i rk pc : Nat} {l : xL} {st : List Value} {M : xM} (hC : C ≤ xmc i) (hS : S ≤ xms i) (h : zok2 i pc .arraylength = true) : zsR C S (xdo i rk pc l st M 0 0 .arraylength) (xdo i rk pc l st M C S .arraylength) := by
  have g : ∀ (k : Nat) (st : List Value), zsR C S (match xlen M k with
    | some v => xgo i rk (pc + 1) l (.int v :: st) M 0 0
    | none => none) (match xlen M k with
    | some v => xgo i rk (pc + 1) l (.int v :: st) M C S
    | none => none) := by
    intro k st
    cases xlen M k with
    | none => exact True.intro
    | some v => exact zsgo (rk := rk) h
  rcases st with _ | ⟨v, st⟩
  · exact True.intro
  · cases v <;> first | exact True.intro | exact g _ st
theorem zs_icmp_eq {C S i rk pc : Nat} {l : xL} {st : List Value} {M : xM} (hC : C ≤ xmc i) (hS : S ≤ xms i) (o : Int) (h : zok2 i pc (.if_icmp .eq o) = true) : zsR C S (xdo i rk pc l st M 0 0 (.if_icmp .eq o)) (xdo i rk pc l st M C S (.if_icmp .eq o)) := by
  have h' : (ziI ((pc : Int) + o) && zin (pc + 3)) = true := h
  rw [Bool.and_eq_true] at h'
  rcases st with _ | ⟨v, st⟩
  · exact True.intro
  · rcases st with _ | ⟨w, st⟩
    · cases v <;> exact True.intro
    · cases v <;> cases w <;> first | exact True.intro | exact zsbr h'.1 h'.2
theorem zs_icmp_gt {C S i rk pc : Nat} {l : xL} {st : List Value} {M : xM} (hC : C ≤ xmc i) (hS : S ≤ xms i) (o : Int) (h : zok2 i pc (.if_icmp .gt o) = true) : zsR C S (xdo i rk pc l st M 0 0 (.if_icmp .gt o)) (xdo i rk pc l st M C S (.if_icmp .gt o)) := by
  have h' : (ziI ((pc : Int) + o) && zin (pc + 3)) = true := h
  rw [Bool.and_eq_true] at h'
  rcases st with _ | ⟨v, st⟩
  · exact True.intro
  · rcases st with _ | ⟨w, st⟩
    · cases v <;> exact True.intro
    · cases v <;> cases w <;> first | exact True.intro | exact zsbr h'.1 h'.2
theorem zs_goto {C S i rk pc : Nat} {l : xL} {st : List Value} {M : xM} (hC : C ≤ xmc i) (hS : S ≤ xms i) (o : Int) (h : zok2 i pc (.goto o) = true) : zsR C S (xdo i rk pc l st M 0 0 (.goto o)) (xdo i rk pc l st M C S (.goto o)) := by
  exact zsjp h
theorem zs_tableswitch {C S i rk pc : Nat} {l : xL} {st : List Value} {M : xM} (hC : C ≤ xmc i) (hS : S ≤ xms i) (d lo hi : Int) (offs : Array Int) (h : zok2 i pc (.tableswitch d lo hi offs) = true) : zsR C S (xdo i rk pc l st M 0 0 (.tableswitch d lo hi offs)) (xdo i rk pc l st M C S (.tableswitch d lo hi offs)) := by
  have h' : (ziI ((pc : Int) + d) && offs.toList.all (fun o => ziI ((pc : Int) + o))) = true := h
  rw [Bool.and_eq_true] at h'
  have g : ∀ x, ziI ((pc : Int) + xsw lo offs.toList d x) = true := by
    intro x
    rcases xsw_m (d := d) (x := x) offs.toList lo with e | e
    · rw [e]; exact h'.1
    · exact List.all_eq_true.mp h'.2 _ e
  rcases st with _ | ⟨v, st⟩
  · exact True.intro
  · cases v <;> first | exact True.intro | exact zsite id (zsjp (g _))
theorem zs_ireturn {C S i rk pc : Nat} {l : xL} {st : List Value} {M : xM} (hC : C ≤ xmc i) (hS : S ≤ xms i) (h : zok2 i pc .ireturn = true) : zsR C S (xdo i rk pc l st M 0 0 .ireturn) (xdo i rk pc l st M C S .ireturn) := by
  rcases st with _ | ⟨v, st⟩
  · exact True.intro
  · rcases st with _ | ⟨w, st⟩
    · cases v <;> first | exact True.intro | exact zsite (fun t => ⟨t.1, hC, hS⟩) rfl
    · cases v <;> exact True.intro
theorem zs_invokevirtual {C S i rk pc : Nat} {l : xL} {st : List Value} {M : xM} (hC : C ≤ xmc i) (hS : S ≤ xms i) (q : Nat) (h : zok2 i pc (.invokevirtual q) = true) : zsR C S (xdo i rk pc l st M 0 0 (.invokevirtual q)) (xdo i rk pc l st M C S (.invokevirtual q)) := by
  have h' : (zin (pc + 3) && (match xcl (xow i) q with
    | some (j, _) => Nat.beq (xmc j) 0 && Nat.beq (xms j) 0
    | none => true)) = true := h
  rw [Bool.and_eq_true] at h'
  have h2 := h'.2
  show zsR C S (xinv 1 i rk pc q l st M 0 0) (xinv 1 i rk pc q l st M C S)
  unfold xinv
  generalize xcl (xow i) q = o at h2 ⊢
  rcases o with _ | ⟨j, ns⟩
  · exact True.intro
  · have h3 : (Nat.beq (xmc j) 0 && Nat.beq (xms j) 0) = true := h2
    rw [Bool.and_eq_true] at h3
    refine zsite id ?_
    show zsR C S (if (1 : Nat) = 0 then _ else _) (if (1 : Nat) = 0 then _ else _)
    rw [if_neg (show ¬ (1 : Nat) = 0 by decide), if_neg (show ¬ (1 : Nat) = 0 by decide)]
    generalize (st.take (xna j)).reverse = w
    rcases w with _ | ⟨v, vs⟩
    · exact True.intro
    · cases v with
      | ref k => exact zsite id (zscall hC hS (Nat.eq_of_beq_eq_true h3.1) (Nat.eq_of_beq_eq_true h3.2) h'.1)
      | int _ => exact True.intro
      | long _ => exact True.intro
      | float _ => exact True.intro
      | double _ => exact True.intro
      | null => exact True.intro
      | retAddr _ => exact True.intro
theorem zsdo {C S i rk pc : Nat} {l : xL} {st : List Value} {M : xM} (hC : C ≤ xmc i) (hS : S ≤ xms i) {op : Instr} (h : zok2 i pc op = true) : zsR C S (xdo i rk pc l st M 0 0 op) (xdo i rk pc l st M C S op) := by
  cases op with
  | iconst v => exact zs_iconst hC hS v h
  | bipush v => exact zs_bipush hC hS v h
  | iload_n k => exact zs_iload_n hC hS k h
  | aload_n k => exact zs_aload_n hC hS k h
  | iinc k v => exact zs_iinc hC hS k v h
  | iadd => exact zs_iadd hC hS h
  | isub => exact zs_isub hC hS h
  | iand => exact zs_iand hC hS h
  | iaload => exact zs_iaload hC hS h
  | arraylength => exact zs_arraylength hC hS h
  | if_icmp cd o => cases cd <;> first | exact zs_icmp_eq hC hS o h | exact zs_icmp_gt hC hS o h | exact absurd h Bool.false_ne_true
  | goto o => exact zs_goto hC hS o h
  | tableswitch d lo hi offs => exact zs_tableswitch hC hS d lo hi offs h
  | ireturn => exact zs_ireturn hC hS h
  | invokevirtual q => exact zs_invokevirtual hC hS q h
  | _ => exact absurd h Bool.false_ne_true
set_option maxRecDepth 100000 in
theorem zstab : ∀ d, d < 982 → (match xop 266 (18 + d) with
  | some (op, _) => zok2 266 (18 + d) op
  | none => true) = true := by decide +kernel
theorem zsact {C S rk pc : Nat} {l : xL} {st : List Value} {M : xM} (hC : C ≤ xmc 266) (hS : S ≤ xms 266) (h1 : 18 ≤ pc) (h2 : pc < 1000) : zsR C S (xact (266, rk, pc, l, st, M, 0, 0)) (xact (266, rk, pc, l, st, M, C, S)) := by
  have t := zstab (pc - 18) (by omega)
  rw [show 18 + (pc - 18) = pc by omega] at t
  show zsR C S (match xop 266 pc with
    | some (op, n) => bif Nat.beq (xsz op) 0 || Nat.beq n (xsz op) then xdo 266 rk pc l st M 0 0 op else none
    | none => none) (match xop 266 pc with
    | some (op, n) => bif Nat.beq (xsz op) 0 || Nat.beq n (xsz op) then xdo 266 rk pc l st M C S op else none
    | none => none)
  generalize xop 266 pc = o at t ⊢
  rcases o with _ | ⟨op, n⟩
  · exact True.intro
  · have t' : zok2 266 pc op = true := t
    show zsR C S (bif Nat.beq (xsz op) 0 || Nat.beq n (xsz op) then xdo 266 rk pc l st M 0 0 op else none) (bif Nat.beq (xsz op) 0 || Nat.beq n (xsz op) then xdo 266 rk pc l st M C S op else none)
    cases (Nat.beq (xsz op) 0 || Nat.beq n (xsz op)) with
    | false => exact True.intro
    | true => exact zsdo hC hS t'
theorem zsex {C S : Nat} (hC : C ≤ xmc 266) (hS : S ≤ xms 266) : ∀ (n rk pc : Nat) (l : xL) (st : List Value) (M : xM) (r : xR), 18 ≤ pc → pc < 1000 → xex n (266, rk, pc, l, st, M, 0, 0) = some r → xex n (266, rk, pc, l, st, M, C, S) = some r := by
  intro n
  induction n with
  | zero => intro rk pc l st M r _ _ h; cases h
  | succ n ih =>
    intro rk pc l st M r h1 h2 h
    have h0 : xF (xex n) (266, rk, pc, l, st, M, 0, 0) = some r := h
    have R := zsact (rk := rk) (l := l) (st := st) (M := M) hC hS h1 h2
    show xF (xex n) (266, rk, pc, l, st, M, C, S) = some r
    unfold xF at h0 ⊢
    generalize xact (266, rk, pc, l, st, M, 0, 0) = A at h0 R
    generalize xact (266, rk, pc, l, st, M, C, S) = A' at R ⊢
    rcases A with _ | (r1 | (⟨q, l1, st1, M1, c1, s1⟩ | ⟨a, k⟩))
    · cases h0
    · have R' : A' = some (.inl r1) := R
      rw [R']
      exact h0
    · obtain ⟨R1, R2, R3, R4, R5⟩ : A' = some (.inr (.inl (q, l1, st1, M1, C, S))) ∧ c1 = 0 ∧ s1 = 0 ∧ 18 ≤ q ∧ q < 1000 := R
      subst R2
      subst R3
      rw [R1]
      exact ih rk q l1 st1 M1 r R4 R5 h0
    · obtain ⟨k', R1, R2⟩ : ∃ k', A' = some (.inr (.inr (a, k'))) ∧ ∀ r Q, k r = some Q → k' r = some (Q.1, Q.2.1, Q.2.2.1, Q.2.2.2.1, C, S) ∧ Q.2.2.2.2.1 = 0 ∧ Q.2.2.2.2.2 = 0 ∧ 18 ≤ Q.1 ∧ Q.1 < 1000 := R
      rw [R1]
      have e : (bif xokc a.1 a.2.1 then (xex n (xini a)).bind fun r => bif xrok (xrt a.1) r.1 then (k r).bind fun q => xex n (266, rk, q) else none else none) = some r := h0
      show (bif xokc a.1 a.2.1 then (xex n (xini a)).bind fun r => bif xrok (xrt a.1) r.1 then (k' r).bind fun q => xex n (266, rk, q) else none else none) = some r
      cases ho : xokc a.1 a.2.1 with
      | false => rw [ho] at e; cases e
      | true =>
        rw [ho] at e
        have e1 : ((xex n (xini a)).bind fun r => bif xrok (xrt a.1) r.1 then (k r).bind fun q => xex n (266, rk, q) else none) = some r := e
        show ((xex n (xini a)).bind fun r => bif xrok (xrt a.1) r.1 then (k' r).bind fun q => xex n (266, rk, q) else none) = some r
        rw [Option.bind_eq_some_iff] at e1 ⊢
        obtain ⟨r2, e2, e3⟩ := e1
        refine ⟨r2, e2, ?_⟩
        cases hr : xrok (xrt a.1) r2.1 with
        | false => rw [hr] at e3; cases e3
        | true =>
          rw [hr] at e3
          have e5 : ((k r2).bind fun q => xex n (266, rk, q)) = some r := e3
          show ((k' r2).bind fun q => xex n (266, rk, q)) = some r
          rw [Option.bind_eq_some_iff] at e5 ⊢
          obtain ⟨⟨q, l1, st1, M1, c1, s1⟩, e6, e7⟩ := e5
          obtain ⟨x1, x2, x3, x4, x5⟩ := R2 r2 _ e6
          have x2' : c1 = 0 := x2
          have x3' : s1 = 0 := x3
          subst x2'
          subst x3'
          exact ⟨_, x1, ih rk q l1 st1 M1 r x4 x5 e7⟩
