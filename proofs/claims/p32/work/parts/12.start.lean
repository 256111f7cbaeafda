/-! THE CLAIM OUT OF ONE WALK OF THE LAW'S BODY. Your part is whole_start (and what it stands on); all else here is the same for every law, but numbers. -/
def R_law : String := "ArrowOrdersLaw"
def lw_P (b : Addr) (xs : List Int32) (args : Array Value) (s : State) : Prop := args = #[.ref b] ∧ s.IntsAt b xs ∧ xs.length ≤ 260 ∧ (Jvm.Cond.and given_1 narrow_1).before args s = true
def lw_Q (_ : Array Value) (s : State) (o : Outcome) (t : State) : Prop := o = .returned (some (.int 1)) ∧ Framed s o t [] 600000 7302250
def lw_Z (below : List Frame) (a : Array Value) (s : State) : State → Prop := fun t => ∃ o, t.status = .running ∧ Ended t below o ∧ lw_Q a s o t
/-- the law's own end, with 1 on the stack, nothing written that was there before, its room as the claim has it -/
theorem lw_ret {p : Program} {l : Launch} {e : Env} {s : State} {m : MethodId} {below : List Frame} {meth : Method} {c : Code} {b : Nat} (hx : p.tables.exec = Jvm.exec) (hb : c.code = code) (hr : meth.sig.returnType = ret) (hlocks : meth.locks = false) {pc : Nat} {H : Heap} {ls : Array Slot} (hdg : decode code pc = .ok (.ireturn, 1)) : W p l e room_1 s m #[Value.ref b] below meth c H [] 600000 7302250 (lw_Z below #[Value.ref b] s) (F0 m pc ls [.int 1]) := by
  intro T hT X
  obtain ⟨fs, hret, hrun, hended, hW, hframe⟩ := X.leave (v := some (.int 1)) (hlocks := hlocks) (fun h => by rw [hr] at h; cases h)
  have hmeth' : T.vm.method? m = some meth := X.method'
  refine ⟨T.setFrames fs, ?_, .returned (some (.int 1)), hrun, hended, rfl, ⟨_, rfl⟩, hW, hframe⟩
  jvm_step X.here [X.here.top, hx, hb, hdg, hmeth', hr, ret, narrow_b1]
  (try refine ⟨rfl, ?_⟩); (try refine ⟨rfl, ?_⟩)
  first | (intro acts; rw [hret _ acts rfl rfl rfl]) | rw [hret _ _ rfl rfl rfl]
  exact Steps.refl _
/-- what holds at the law's entry: the machine, the code, the tables' words (any of lw_tbl by 'hts w (by decide +kernel)'), the script of L ints xs at the cell b, what the Statement gives of the start (any of its parts by flat_of_before) -/
def lw_At (p : Program) (s : State) (m : MethodId) (meth : Method) (c : Code) (b L : Nat) (xs : Nat → Int32) : Prop :=
  p.tables.exec = Jvm.exec ∧ c.code = code ∧ meth.sig.returnType = ret ∧ c.maxLocals = 19 ∧ s.vm.findClass R_law = some m.cls ∧ (∀ w ∈ lw_tbl, w.before #[Value.ref b] s = true) ∧ va_X b L xs s s.heap ∧ b < s.heap.size ∧ meth.locks = false ∧ (Jvm.Cond.and given_1 narrow_1).before #[Value.ref b] s = true
theorem xZ_of {args : Array Value} {s : State} {C n d : String} {x : Int32} {A : Nat → Prop} (hl : (Cond.laysStatic C n d).before args s = true) (hini : (Cond.initialized C).before args s = true) (h : (Cond.eq (.static C n d) (.int x)).before args s = true) (hA : ∀ a : Nat, a < s.heap.size → ¬ A a) : va_Z C n d (.int x) A s s.heap := by
  exact va_Zof hl hini (va_eqi h) hA
/-! the start: what holds at the law's entry, and the claim out of a run of the interpreter -/
def xsti : Nat → Nat
  | 0 => 107
  | 1 => 113
  | 2 => 115
  | _ => 117
def xtm (j : Nat) : Term := Term.string "ArrowOrders$Reader" (xsti j)
theorem xkSL_at : ∀ e ∈ xkSL, e.2.2.1 < 4 ∧ xcn e.1 = "ArrowOrders$Reader" ∧ e.2.1 = xsti e.2.2.1 := by decide +kernel
set_option maxRecDepth 100000 in
theorem xstart_sr : ∀ e ∈ xkSL, Cond.stringRef "ArrowOrders$Reader" e.2.1 e.2.2.2 ∈ lw_tbl := by decide +kernel
set_option maxRecDepth 100000 in
theorem xstart_nl : ∀ e ∈ xNL, Cond.methodLinkNest (xcn e.1) e.2.1 (xy e.2.2.1) e.2.2.2 ∈ lw_tbl := by decide +kernel
theorem forall4 {p : Nat → Prop} (h0 : p 0) (h1 : p 1) (h2 : p 2) (h3 : p 3) : ∀ i, i < 4 → p i := lt_s (lt_s (lt_s (lt_s lt_0 h0) h1) h2) h3
def xM0 (L : Nat) (xs : Nat → Int32) : xM := (fun k i => if k = 1998 then xs i else if k = 1997 then nI L else 0, fun _ _ => 0, fun _ _ => 0, 0)
set_option maxHeartbeats 4000000 in
set_option maxRecDepth 100000 in
theorem xenv_start {s : State} {b L : Nat} {xs : Nat → Int32} (hL : L ≤ 3072) (hts : ∀ w ∈ lw_tbl, w.before #[Value.ref b] s = true) (hgv : (Jvm.Cond.and given_1 narrow_1).before #[Value.ref b] s = true) (hX : va_X b L xs s s.heap) (hbl : b < s.heap.size) : ∃ P : xP, xPB P = s.heap.size ∧ xPs P = b ∧ xPL P = L ∧ xPx P = xs ∧ xenv P s := by
  have hs := flat_of_before _ hgv
  have hA : ∀ a : Nat, a < s.heap.size → ¬ (fun q => s.heap.size ≤ q) a := fun a h => Nat.not_le.mpr h
  obtain ⟨aK, aV, hS, hev⟩ := vk_Sof (args := #[Value.ref b]) (s := s) (N := 4) (tm := xtm) (len := [5, 3, 4, 5]) (byt := xSBy) (A := fun q => s.heap.size ≤ q)
    (forall4 (by decide) (by decide) (by decide) (by decide))
    (forall4 (hs _ (by decide +kernel)) (hs _ (by decide +kernel)) (hs _ (by decide +kernel)) (hs _ (by decide +kernel)))
    (forall4 (hs _ (by decide +kernel)) (hs _ (by decide +kernel)) (hs _ (by decide +kernel)) (hs _ (by decide +kernel)))
    (forall4 (hs _ (by decide +kernel)) (hs _ (by decide +kernel)) (hs _ (by decide +kernel)) (hs _ (by decide +kernel)))
    (forall4 (hs _ (by decide +kernel)) (hs _ (by decide +kernel)) (hs _ (by decide +kernel)) (hs _ (by decide +kernel)))
    (forall4 (lt_s (lt_s (lt_s (lt_s (lt_s lt_0 (hs _ (by decide +kernel))) (hs _ (by decide +kernel))) (hs _ (by decide +kernel))) (hs _ (by decide +kernel))) (hs _ (by decide +kernel)))
      (lt_s (lt_s (lt_s lt_0 (hs _ (by decide +kernel))) (hs _ (by decide +kernel))) (hs _ (by decide +kernel)))
      (lt_s (lt_s (lt_s (lt_s lt_0 (hs _ (by decide +kernel))) (hs _ (by decide +kernel))) (hs _ (by decide +kernel))) (hs _ (by decide +kernel)))
      (lt_s (lt_s (lt_s (lt_s (lt_s lt_0 (hs _ (by decide +kernel))) (hs _ (by decide +kernel))) (hs _ (by decide +kernel))) (hs _ (by decide +kernel))) (hs _ (by decide +kernel))))
    (by
      intro i j hi hj hne
      rcases (show i = 0 ∨ i = 1 ∨ i = 2 ∨ i = 3 by omega) with rfl | rfl | rfl | rfl <;> rcases (show j = 0 ∨ j = 1 ∨ j = 2 ∨ j = 3 by omega) with rfl | rfl | rfl | rfl <;> first
        | exact absurd rfl hne
        | exact Or.inl (hs _ (by decide +kernel))
        | exact Or.inr (hs _ (by decide +kernel)))
    hA
  have hZ1 : va_Z "java/lang/String" "COMPACT_STRINGS" "Z" (.int 1) (fun q => s.heap.size ≤ q) s s.heap := by
    have he : (Cond.eq (.static "java/lang/String" "COMPACT_STRINGS" "Z") (.int 1)).before #[Value.ref b] s = true := hs _ (by decide +kernel)
    exact xZ_of (hts _ (by decide +kernel)) (hts _ (by decide +kernel)) he hA
  have hZ2 := va_Zqof (A := fun q => s.heap.size ≤ q) (hts (.laysStatic "jdk/internal/util/Preconditions" "SIOOBE_FORMATTER" "Ljava/util/function/BiFunction;") (by decide +kernel)) (hts _ (by decide +kernel)) (hs _ (by decide +kernel)) hA
  obtain ⟨φ, hφ, hφ2⟩ : ∃ φ : Value, va_Z "jdk/internal/util/Preconditions" "SIOOBE_FORMATTER" "Ljava/util/function/BiFunction;" φ (fun q => s.heap.size ≤ q) s s.heap ∧ (φ = .null ∨ ∃ t, φ = .ref t) := by
    rcases hZ2 with h | ⟨t, h⟩
    · exact ⟨_, h, Or.inl rfl⟩
    · exact ⟨_, h, Or.inr ⟨t, rfl⟩⟩
  have hkn : ∀ c, ∃ cI : ClassId × (Nat → Nat), xoc c → u_Kn s (xcn c) (xTN c) (xnsl c) cI.1 cI.2 := by
    intro c
    by_cases hc : xoc c
    · have hts2 : ∀ w ∈ xALL, w.before #[Value.ref b] s = true := fun w hw => hts w (List.mem_filter.mp hw).1
      obtain ⟨cC, iS, h⟩ := u_known hts2 (xcls_ws c hc) (hts2 _ (xinst_all c hc.1 hc.2))
      exact ⟨(cC, iS), fun _ => h⟩
    · exact ⟨(0, fun _ => 0), fun h => absurd h hc⟩
  let cI : Nat → ClassId × (Nat → Nat) := fun c => Classical.choose (hkn c)
  have hcI : ∀ c, xoc c → u_Kn s (xcn c) (xTN c) (xnsl c) (cI c).1 (cI c).2 := fun c hc => Classical.choose_spec (hkn c) hc
  let dN : Nat → ClassId × (Nat → Nat) := fun c => if c = 9 then cI 3 else cI c
  refine ⟨((fun c => (dN c).1, fun c => (dN c).2), s.heap.size, aK, aV, b, L, xs, φ), rfl, rfl, rfl, rfl, hS, ?_, hZ1, hφ, ?_, hX, hbl, hbl, ⟨?_, ?_⟩, ?_, hφ2, hL⟩
  · intro e he
    obtain ⟨h4, h1, h2⟩ := xkSL_at e he
    have h5 := hev _ h4
    have h6 := hts _ (xstart_sr e he)
    rw [h1]
    refine vk_R.of (A := #[Value.ref b]) h6 ?_
    rw [h2]
    exact h5
  · intro e he
    exact va_Nw.of rfl (hts _ (xstart_nl e he))
  · intro c q hq
    have hc13 : c < 12 := (List.getElem?_eq_some_iff.mp hq).1
    by_cases h9 : c = 9
    · subst h9
      have h3 := hcI 3 (by decide)
      cases hq
      exact h3
    · have := xcls_at c ⟨hc13, h9⟩
      rw [this] at hq
      cases hq
      show u_Kn s _ _ _ (dN c).1 (dN c).2
      rw [show dN c = cI c from if_neg h9]
      exact hcI c ⟨hc13, h9⟩
  · intro k q hq
    cases hq
  · exact va_AO.of (hts _ (by decide +kernel))
set_option maxHeartbeats 4000000 in
/-- the law's method comes to its end with 1, if the interpreter says so -/
theorem xlaw_W {p : Program} {e : Env} {s : State} {m : MethodId} {below : List Frame} {meth : Method} {c : Code} (l : Launch) {b L : Nat} {xs : Nat → Int32} (hL : L ≤ 3072) (C0 : lw_At p s m meth c b L xs) {n : Nat} {M' : xM} (hex : xex n (xJL, 20, 0, [(0, .ref 1998)], [], xM0 L xs, 0, 0) = some (some (.int 1), M')) : W p l e room_1 s m #[Value.ref b] below meth c s.heap [] 0 0 (lw_Z below #[Value.ref b] s) (entryFrame m ([Value.ref b] : List Value).toArray 19) := by
  obtain ⟨hx, hb, hr, hml, hown, hts, hX, hbl, hlocks, hgv⟩ := C0
  obtain ⟨P, hB, hPs, hPL, hPx, hE⟩ := xenv_start hL hts hgv hX hbl
  have hctx : xctx p room_1 s m #[Value.ref b] meth c P xJL 20 := ⟨hx, hb, hml, hown, fun w hw => hts w (List.mem_filter.mp hw).1, fun h => absurd h (by decide), hE, by decide, by decide, by decide, by decide⟩
  have hR : xrep P s s.heap (xM0 L xs) := ⟨by rw [hB]; rfl, Nat.zero_le _, fun k hk => absurd hk (Nat.not_lt_zero (xsg k)), fun i hi => by rw [hPx]; rfl, by rw [hPL]; rfl, fun _ _ => Nat.zero_le _⟩
  have hl := lv_entry ([.ref b]) (n := 19) (Nat.le_of_ble_eq_true rfl)
  rw [lg_entry_eq]
  have hl2 : lv_has (lg_sl [Value.ref b] ++ List.replicate (19 - (lg_sl [Value.ref b]).length) Slot.unset).toArray (xml xJL) (xlc P [(0, .ref 1998)]) := by
    have e1 : xlc P [(0, .ref 1998)] = [(0, .ref b)] := by
      show [(0, xcr P 1998)] = _
      rw [xcr_scr, hPs]
    rw [e1]
    exact hl
  refine xsays_all n _ _ hex p l e room_1 s m #[Value.ref b] below meth c _ P (Nat.le_refl _) hctx ?_ s.heap [] _ hR va_S.rf hl2 (Nat.zero_le _) (Nat.zero_le _)
  intro pc op H locs ls c' s' hd hop hR2 hS hc hs
  have hd2 : decode code pc = .ok (.ireturn, 1) := by
    rcases hop with ⟨rfl, -⟩ | ⟨rfl, x, hv, -⟩ | ⟨rfl, -, hv⟩ | ⟨rfl, hv, -⟩
    · exact hd
    · cases hv
    · rcases hv with ⟨k, hv, -⟩ | hv <;> cases hv
    · cases hv
  refine va_forget (fun q hq => by have := hS.2.2 q hq; unfold xA0 at this; rw [hB] at this; exact this) ?_
  refine W.widen (k := 600000) (n := 7302250) (Nat.le_trans hc (show xmc xJL ≤ 600000 from Nat.le_of_ble_eq_true rfl)) (Nat.le_trans hs (show xms xJL ≤ 7302250 from Nat.le_of_ble_eq_true rfl)) ?_
  exact lw_ret hx hb hr hlocks hd2
