/-! one step of the interpreter, on the machine -/
set_option maxRecDepth 100000 in
theorem xkS_c : ((List.range 20).all fun o => (List.range 1100).all fun q => match xkS o q with | none => true | some j => decide (∃ e ∈ xkSL, e.1 = o ∧ e.2.1 = q ∧ e.2.2.1 = j ∧ j < 4)) = true := by decide +kernel
theorem xkS_in {o q j : Nat} (h : xkS o q = some j) : j < 4 ∧ ∃ t, (o, q, j, t) ∈ xkSL := by
  have ho : o < 20 ∧ q < 1100 := by
    cases hc : (Nat.blt o 20 && Nat.blt q 1100) with
    | true =>
      simp only [Bool.and_eq_true] at hc
      exact ⟨Nat.le_of_ble_eq_true hc.1, Nat.le_of_ble_eq_true hc.2⟩
    | false => unfold xkS at h; rw [hc] at h; cases h
  have h1 := List.all_eq_true.mp (List.all_eq_true.mp xkS_c o (List.mem_range.mpr ho.1)) q (List.mem_range.mpr ho.2)
  rw [h] at h1
  obtain ⟨⟨a, b, d, t⟩, h2, h3, h4, h5, h6⟩ := of_decide_eq_true h1
  dsimp only at h3 h4 h5
  subst h3; subst h4; subst h5
  exact ⟨h6, t, h2⟩
theorem xsw_out {offs : List Int} : ∀ {lo d : Int} {x : Int32}, -1000 ≤ lo → lo + offs.length ≤ 1001 → (x.toInt < lo ∨ lo + offs.length ≤ x.toInt) → xsw lo offs d x = d := by
  induction offs with
  | nil => intros; rfl
  | cons o os ih =>
    intro lo d x h1 h2 h3
    rw [List.length_cons] at h2 h3
    unfold xsw
    rw [if_neg, ih (by omega) (by omega) (by omega)]
    intro hx
    have : x.toInt = lo := by rw [hx, Int32.toInt_ofInt_of_le (by omega) (by omega)]
    omega
theorem xsw_inn {offs : List Int} : ∀ {lo d : Int} {x : Int32}, -1000 ≤ lo → lo + offs.length ≤ 1001 → lo ≤ x.toInt → x.toInt < lo + offs.length → offs[(x.toInt - lo).toNat]? = some (xsw lo offs d x) := by
  induction offs with
  | nil =>
    intro lo d x h1 h2 h3 h4
    simp at h4
    omega
  | cons o os ih =>
    intro lo d x h1 h2 h3 h4
    rw [List.length_cons] at h2 h4
    unfold xsw
    by_cases hx : x = Int32.ofInt lo
    · rw [if_pos hx]
      have : x.toInt = lo := by rw [hx, Int32.toInt_ofInt_of_le (by omega) (by omega)]
      rw [this, Int.sub_self]
      rfl
    · rw [if_neg hx]
      have hne : x.toInt ≠ lo := by
        intro q
        apply hx
        apply Int32.toInt_inj.mp
        rw [q, Int32.toInt_ofInt_of_le (by omega) (by omega)]
      have e : (x.toInt - lo).toNat = (x.toInt - (lo + 1)).toNat + 1 := by omega
      rw [e, List.getElem?_cons_succ]
      exact ih (by omega) (by omega) (by omega) (by omega)
section
variable (p : Program) (l : Launch) (e : Env) (R : Room) (s0 : State) (m : MethodId) (args : Array Value) (below : List Frame) (meth : Method) (cd : Code) (Q : State → Prop) (P : xP) (i rk : Nat)
def xctx : Prop := p.tables.exec = Jvm.exec ∧ cd.code = xcode i ∧ cd.maxLocals = xml i ∧ s0.vm.findClass (xcn (xow i)) = some m.cls ∧ (∀ w ∈ xALL, w.before args s0 = true) ∧ (xki i = 2 → meth.name = "<init>") ∧ xenv P s0 ∧ rk ≤ R.frames ∧ 60 * rk ≤ R.locals ∧ xmc i ≤ R.cells ∧ xms i ≤ R.slots
def xWg (q : Nat) (l' : xL) (st : List Value) (M : xM) (c s : Nat) : Prop := ∀ (H : Heap) (locs : List Loc) (ls : Array Slot), xrep P s0 H M → va_S (xA0 P) s0.heap H locs → lv_has ls (xml i) (xlc P l') → c ≤ xmc i → s ≤ xms i → W p l e R s0 m args below meth cd H locs c s Q (F0 m q ls (st.map (xcv P)))
def xrop (op : Instr) (v : Option Value) (t : Option FieldType) : Prop := (op = .ireturn ∧ ∃ x, v = some (.int x) ∧ xretok t x = true) ∨ (op = .lreturn ∧ ∃ x, v = some (.long x) ∧ t = some .long) ∨ (op = .areturn ∧ (t = some (.object "ArrowOrders$Net") ∨ t = some (.array .int)) ∧ ((∃ k, v = some (.ref k) ∧ ¬ k = 1999) ∨ v = some .null)) ∨ (op = .return_ ∧ v = none ∧ t = none)
def xEnd (r : xR) : Prop := ∀ (pc : Nat) (op : Instr) (H : Heap) (locs : List Loc) (ls : Array Slot) (c s : Nat), decode (xcode i) pc = .ok (op, 1) → xrop op r.1 (xrt i) → xrep P s0 H r.2 → va_S (xA0 P) s0.heap H locs → c ≤ xmc i → s ≤ xms i → W p l e R s0 m args below meth cd H locs c s Q (F0 m pc ls (r.1.map (xcv P)).toList)
def xWA (a : xA) : Prop := match a with
  | none => False
  | some (.inl r) => xEnd p l e R s0 m args below meth cd Q P i r
  | some (.inr (.inl g)) => xWg p l e R s0 m args below meth cd Q P i g.1 g.2.1 g.2.2.1 g.2.2.2.1 g.2.2.2.2.1 g.2.2.2.2.2
  | some (.inr (.inr (a, k))) => ∃ r, xMet l P a.1 a.2.1 a.2.2 r ∧ ∃ g, k r = some g ∧ xWg p l e R s0 m args below meth cd Q P i g.1 g.2.1 g.2.2.1 g.2.2.2.1 g.2.2.2.2.1 g.2.2.2.2.2
end
section
variable {p : Program} {l : Launch} {e : Env} {R : Room} {s0 : State} {m : MethodId} {args : Array Value} {below : List Frame} {meth : Method} {cd : Code} {Q : State → Prop} {P : xP} {i rk : Nat}
theorem xWg.nm {q : Nat} {l' : xL} {st : List Value} {M : xM} {c s : Nat} (h : xWg p l e R s0 m args below meth cd Q P i q (xnm i q l') st M c s) : xWg p l e R s0 m args below meth cd Q P i q l' st M c s := fun H locs ls a b d f g => h H locs ls a b (xl_nm d) f g
theorem xgoW {q : Nat} {l' : xL} {st : List Value} {M : xM} {c s : Nat} (h : xWA p l e R s0 m args below meth cd Q P i (xgo i rk q l' st M c s)) : xWg p l e R s0 m args below meth cd Q P i q l' st M c s := xWg.nm h
theorem xjpW {pc : Nat} {off : Int} {l' : xL} {st : List Value} {M : xM} {c s : Nat} (h : xWA p l e R s0 m args below meth cd Q P i (xjp i rk pc off l' st M c s)) : ∃ t : Nat, (pc : Int) + off = (t : Int) ∧ xWg p l e R s0 m args below meth cd Q P i t l' st M c s := by
  unfold xjp at h
  split at h
  · rename_i t ht
    exact ⟨t, ht, xgoW h⟩
  · exact h.elim
theorem xbrW {pc : Nat} {off : Int} {l' : xL} {st : List Value} {M : xM} {c s : Nat} {b : Prop} (hb : Decidable b) (h : xWA p l e R s0 m args below meth cd Q P i (xbr i rk pc off l' st M c s b)) : ∃ t : Nat, (pc : Int) + off = (t : Int) ∧ (b → xWg p l e R s0 m args below meth cd Q P i t l' st M c s) ∧ (¬ b → xWg p l e R s0 m args below meth cd Q P i (pc + 3) l' st M c s) := by
  unfold xbr at h
  split at h
  · rename_i t ht
    refine ⟨t, ht, fun hb => ?_, fun hb => ?_⟩
    · rw [if_pos hb] at h; exact xgoW h
    · rw [if_neg hb] at h; exact xgoW h
  · exact h.elim
theorem xifW {b : Prop} {hb : Decidable b} {a : xA} (h : xWA p l e R s0 m args below meth cd Q P i (@ite _ b hb a none)) : b ∧ xWA p l e R s0 m args below meth cd Q P i a := by
  by_cases q : b
  · rw [if_pos q] at h; exact ⟨q, h⟩
  · rw [if_neg q] at h; exact h.elim
theorem xifN {b : Prop} {hb : Decidable b} {a : xA} (h : xWA p l e R s0 m args below meth cd Q P i (@ite _ b hb none a)) : ¬ b ∧ xWA p l e R s0 m args below meth cd Q P i a := by
  by_cases q : b
  · rw [if_pos q] at h; exact h.elim
  · rw [if_neg q] at h; exact ⟨q, h⟩
end
