/-! calls -/
theorem xcl_fact {o q j n : Nat} (h : xcl o q = some (j, n)) : xcf (o, q, j, n) := xcf_all _ (xcl_in h)
theorem xmf_of {o q j n : Nat} (h : xcl o q = some (j, n)) : xmf j := xm_all j (xcl_fact h).1
theorem xmd_spec {j : Nat} (h : xmd j = true) : (xy j).cls = xcn (xow j) ∧ (plainName (xy j).cls = true ∨ j = xJmax ∨ j = xJmin) ∧ (xy j).cls ≠ "java/lang/invoke/MethodHandle" ∧ (xy j).cls ≠ "java/lang/invoke/VarHandle" ∧ (parseMethodDescriptor (xy j).desc).map (fun d => d.parameters.length) = some (bif Nat.beq (xki j) 0 then xna j else xna j - 1) ∧ xml j ≤ 24 ∧ (xki j = 0 ∨ 0 < xna j) := by
  unfold xmd at h
  simp only [Bool.and_eq_true, Bool.or_eq_true, decide_eq_true_eq] at h
  obtain ⟨⟨⟨⟨⟨⟨h1, h2⟩, h3⟩, h4⟩, h5⟩, h6⟩, h7⟩ := h
  refine ⟨h1, ?_, h3, h4, h5, Nat.le_of_ble_eq_true h6, ?_⟩
  · rcases h2 with (h | h) | h
    · exact Or.inl h
    · exact Or.inr (Or.inl (Nat.eq_of_beq_eq_true h))
    · exact Or.inr (Or.inr (Nat.eq_of_beq_eq_true h))
  · rcases h7 with h | h
    · exact Or.inl (Nat.eq_of_beq_eq_true h)
    · exact Or.inr (Nat.le_of_ble_eq_true h)
theorem xmax_y : xy xJmax = Lib.Math.max.name ∧ xcode xJmax = Lib.Math.max.code ∧ xml xJmax = 2 ∧ xrt xJmax = some .int ∧ xki xJmax = 0 := ⟨rfl, rfl, rfl, rfl, rfl⟩
theorem xmin_y : xy xJmin = Lib.Math.min.name ∧ xcode xJmin = Lib.Math.min.code ∧ xml xJmin = 2 ∧ xrt xJmin = some .int ∧ xki xJmin = 0 := ⟨rfl, rfl, rfl, rfl, rfl⟩
theorem xmth_spec {o q k : Nat} (h : xmth o q = k) (hk : k = 1 ∨ k = 2) : ∃ n, xcl o q = some ((if k = 1 then xJmax else xJmin), n) := by
  unfold xmth at h
  split at h
  · rename_i j n hj
    cases h1 : Nat.beq j xJmax with
    | true =>
      rw [h1] at h
      have h : 1 = k := h
      subst h
      exact ⟨n, by rw [if_pos rfl, ← Nat.eq_of_beq_eq_true h1]; exact hj⟩
    | false =>
      rw [h1] at h
      cases h2 : Nat.beq j xJmin with
      | true =>
        rw [h2] at h
        have h : 2 = k := h
        subst h
        exact ⟨n, by rw [if_neg (by decide), ← Nat.eq_of_beq_eq_true h2]; exact hj⟩
      | false =>
        rw [h2] at h
        have h : 0 = k := h
        omega
  · omega
theorem xmth0 {o q j n : Nat} (h : xmth o q = 0) (hj : xcl o q = some (j, n)) : j ≠ xJmax ∧ j ≠ xJmin := by
  unfold xmth at h
  rw [hj] at h
  refine ⟨fun e => ?_, fun e => ?_⟩ <;> subst e <;> cases h
theorem xlink0 {o q j n : Nat} (h : xcl o q = some (j, n)) : (n = 0 ∧ Cond.methodLink (xcn o) q (xy j) ∈ xALL) ∨ (n = 1 ∧ ∃ t, (o, q, j, t) ∈ xNL ∧ ¬ xki j = 1) := by
  obtain ⟨-, h2, h3, h4⟩ := xcl_fact h
  rcases (show n = 0 ∨ n = 1 by omega) with e | e
  · exact Or.inl ⟨e, h2 e⟩
  · exact Or.inr ⟨e, h3 e⟩
theorem xnest_aux {o q : Nat} {y : MethodName} {t : String} {U : State} (h : va_Nw (.methodLinkNest (xcn o) q y t) U) (a : Array Value) : (Cond.methodLinkNest (xcn o) q y t).before a U = true := va_Nw.use (w := .methodLinkNest (xcn o) q y t) rfl h
theorem xnest {P : xP} {s : State} {i q j : Nat} {t : String} (hE : xenv P s) (h : (xow i, q, j, t) ∈ xNL) (a : Array Value) : (Cond.methodLinkNest (xcn (xow i)) q (xy j) t).before a s = true := xnest_aux (hE.2.2.2.2.1 (xow i, q, j, t) h) a
theorem x1004 {k : Nat} (h1 : 1000 ≤ k) (h2 : k < 1004) : ∃ w : Nat, w < 4 ∧ k = 1000 + w := ⟨k - 1000, by omega, by omega⟩
theorem xenvS {P : xP} {s : State} {o q j : Nat} {t : String} (hE : xenv P s) (h : (o, q, j, t) ∈ xkSL) : vk_R (xcn o) q t (xPK P j) s := hE.2.1 (o, q, j, t) h
theorem x1014 {k : Nat} (h1 : 1010 ≤ k) (h2 : k < 1014) : ∃ w : Nat, w < 4 ∧ k = 1010 + w := ⟨k - 1010, by omega, by omega⟩
theorem xJ_nonest : ∀ e ∈ xclL, (e.2.2.1 = xJmax ∨ e.2.2.1 = xJmin) → e.2.2.2 = 0 := by decide +kernel
theorem xmaxW {o q : Nat} (h : xmth o q = 1) : Cond.methodLink (xcn o) q Lib.Math.max.name ∈ xALL ∧ Cond.static Lib.Math.max.name ∈ xALL ∧ Cond.initialized "java/lang/Math" ∈ xALL ∧ Cond.code Lib.Math.max.name Lib.Math.max.code 2 (some .int) ∈ xALL := by
  obtain ⟨n, hj⟩ := xmth_spec h (Or.inl rfl)
  rw [if_pos rfl] at hj
  obtain ⟨m1, m2, m3, -⟩ := xmf_of hj
  have hl : Cond.methodLink (xcn o) q (xy xJmax) ∈ xALL := by
    rcases xlink0 hj with h | h
    · exact h.2
    · exact absurd (xJ_nonest _ (xcl_in hj) (Or.inl rfl)) (by show ¬ n = 0; omega)
  exact ⟨hl, m3 rfl, m2, m1⟩
theorem xminW {o q : Nat} (h : xmth o q = 2) : Cond.methodLink (xcn o) q Lib.Math.min.name ∈ xALL ∧ Cond.static Lib.Math.min.name ∈ xALL ∧ Cond.initialized "java/lang/Math" ∈ xALL ∧ Cond.code Lib.Math.min.name Lib.Math.min.code 2 (some .int) ∈ xALL := by
  obtain ⟨n, hj⟩ := xmth_spec h (Or.inr rfl)
  rw [if_neg (by decide)] at hj
  obtain ⟨m1, m2, m3, -⟩ := xmf_of hj
  have hl : Cond.methodLink (xcn o) q (xy xJmin) ∈ xALL := by
    rcases xlink0 hj with h | h
    · exact h.2
    · exact absurd (xJ_nonest _ (xcl_in hj) (Or.inr rfl)) (by show ¬ n = 0; omega)
  exact ⟨hl, m3 rfl, m2, m1⟩
theorem xJ_kind : xki xJmax = 0 ∧ xki xJmin = 0 := ⟨rfl, rfl⟩
section
variable {p : Program} {l : Launch} {e : Env} {R : Room} {s0 : State} {m : MethodId} {args : Array Value} {below : List Frame} {meth : Method} {cd : Code} {Q : State → Prop} {P : xP} {i rk : Nat}
variable {H : Heap} {locs : List Loc} {c s pc : Nat} {ls : Array Slot} {M : xM} {st : List Value}
/-- behind a call -/
theorem xs_after {r : xR} {a : Array Value} {g0 : JFrame} {rest st0 : List Value} {l' : xL} {j : Nat} (hg0 : g0 = F0 m pc ls st0) (hrun : va_Run p l e R s0 m args below meth cd H locs c s (xmc j) (xms j) g0 (rest.map (xcv P)) (xQc P r a) (xA0 P)) (hS : va_S (xA0 P) s0.heap H locs) (hl : lv_has ls (xml i) (xlc P l')) (h1 : c + xmc j ≤ xmc i) (h2 : s + xms j ≤ xms i)
    (kk : xWg p l e R s0 m args below meth cd Q P i (pc + 3) l' (r.1.toList ++ rest) r.2 (c + xmc j) (s + xms j)) : W p l e R s0 m args below meth cd H locs c s Q g0 := by
  subst hg0
  intro T hT X
  obtain ⟨v, st₀, t, T', L, h0, X', hL, e1, e2, ⟨hv, hrep, hz, hk⟩, stp⟩ := hrun T hT X
  cases hv
  rw [h0] at hz hk
  have hal : t.vm.Alike s0.vm := by rw [← e2]; exact X'.warmed.alike.symm
  have hrep' : xrep P s0 T'.heap r.2 := by rw [e1]; exact hrep.moved hal
  obtain ⟨t2, a1, b1⟩ := kk T'.heap (locs ++ L) ls hrep'
    ⟨Nat.le_trans hS.1 (by rw [e1]; exact hz), fun q q1 q2 => by rw [e1, hk q (Nat.lt_of_lt_of_le q1 hS.1) q2]; exact hS.2.1 q q1 q2, fun q hq => by
      rcases List.mem_append.mp hq with h | h
      · exact hS.2.2 q h
      · exact hL q h⟩ hl h1 h2 T' rfl X'
  refine ⟨t2, stp t2 ?_, b1⟩
  have e3 : (r.1.map (xcv P)).toList ++ rest.map (xcv P) = (r.1.toList ++ rest).map (xcv P) := by
    cases r.1 <;> simp
  show Steps p.tables e below (T'.setTop (F0 m (pc + 3) ls ((r.1.map (xcv P)).toList ++ rest.map (xcv P)))) t2
  rw [e3]
  exact a1
theorem xs_inv (hC : xctx p R s0 m args meth cd P i rk) {q n : Nat} {op : Instr} (hd0 : decode (xcode i) pc = .ok (op, n)) (hn : xsz op = 0 ∨ n = xsz op) {k : Nat} {l' : xL} (hop : (k = 0 ∧ op = .invokestatic q ∧ xmth (xow i) q = 0) ∨ (k = 1 ∧ op = .invokevirtual q) ∨ (k = 2 ∧ op = .invokespecial q))
    (h : xWA p l e R s0 m args below meth cd Q P i (xinv k i rk pc q l' st M c s)) : xWg p l e R s0 m args below meth cd Q P i pc l' st M c s := by
  intro H locs ls hR hS hl hc hs
  obtain ⟨hx, hb, hml, hown, hts, hini, hE, hR1, hR2, hC1, hC2⟩ := id hC
  have hf := hE.2.2.2.2.2.2.2.2.2.2.1
  unfold xinv at h
  split at h
  · rename_i j ns hj
    obtain ⟨hkj, h⟩ := xifW h
    obtain ⟨m1, m2, m3, m4, m5, m6⟩ := xmf_of hj
    obtain ⟨d1, d2, d3, d4, d5, d6, d7⟩ := xmd_spec m6
    have hK : CallFix p m cd (xcode i) (xml i) s0 args xALL (xcn (xow i)) := ⟨hx, hb, hml, hown, hts⟩
    have hG := xgoodin j m1
    have hpay := pay_in hts hG
    have hcd := hts _ m1
    have hin := hts _ m2
    have hU : ∀ (vs : List Value) (U : State), U.heap = H → s0.WarmedH U.vm → xPc P vs M (vs.map (xcv P)).toArray U := fun vs U hU hW => ⟨rfl, by rw [hU]; exact hR.moved hW.alike, hE.at hS hU hW⟩
    have hnp : ∀ nn, (parseMethodDescriptor (xy j).desc).map (fun d => d.parameters.length) = some nn → ∀ sig, parseMethodDescriptor (xy j).desc = some sig → nn = sig.parameters.length := fun nn h sig hs => by rw [hs] at h; exact (Option.some.inj h).symm
    -- what one call needs, whatever its kind
    have hB : ∀ (vs : List Value) (nn : Nat), xrk j vs < rk → nn = (bif Nat.beq (xki j) 0 then xna j else xna j - 1) → ns = 0 → CallB R s0 args (xcn (xow i)) q (xy j) (xcode j) (xml j) (xrt j) (xws j) (xrm j (xrk j vs)) (xmc j) (xms j) nn := by
      intro vs nn hrk hnn hns
      have hlk : Cond.methodLink (xcn (xow i)) q (xy j) ∈ xALL := by
        rcases xlink0 hj with h | h
        · exact h.2
        · omega
      refine ⟨rfl, rfl, ?_, ?_, hpay, List.mem_cons_self, hcd, hin, ⟨d3, d4⟩, fun sig hsig => by rw [hnn]; exact hnp _ d5 sig hsig, hts _ hlk⟩
      · show xrk j vs + 1 ≤ R.frames
        omega
      · show 8 + (xml j + 11) + 60 * xrk j vs ≤ R.locals
        omega
    have hN : ∀ (vs : List Value) (nn : Nat), xrk j vs < rk → nn = (bif Nat.beq (xki j) 0 then xna j else xna j - 1) → ∀ t, (xow i, q, j, t) ∈ xNL → va_CN R s0 args (xcn (xow i)) q (xy j) t (xcode j) (xml j) (xrt j) (xws j) (xrm j (xrk j vs)) (xmc j) (xms j) nn := by
      intro vs nn hrk hnn t ht
      have hw := xnest (i := i) hE ht
      refine ⟨⟨rfl, rfl, ?_, ?_, hpay, List.mem_cons_self⟩, hcd, hin, ⟨d3, d4⟩, fun sig hsig => by rw [hnn]; exact hnp _ d5 sig hsig, hw args⟩
      · show xrk j vs + 1 ≤ R.frames
        omega
      · show 8 + (xml j + 11) + 60 * xrk j vs ≤ R.locals
        omega
    rcases hop with ⟨rfl, rfl, hm0⟩ | ⟨rfl, rfl⟩ | ⟨rfl, rfl⟩
    · -- static
      rw [if_pos rfl] at h
      obtain ⟨hna, h⟩ := xifW h
      unfold xcall at h
      obtain ⟨⟨hrk, hcat, h1, h2⟩, r, hM, g, hg, hW⟩ := xifW h
      cases hg
      have hd : decode (xcode i) pc = .ok (.invokestatic q, 3) := by rw [hd0]; rcases hn with z | z; exact absurd z (by decide : ¬ (3 : Nat) = 0); rw [z]; rfl
      have hst := hts _ (m3 hkj)
      have hvl : ((st.take (xna j)).reverse.map (xcv P)).length = (bif Nat.beq (xki j) 0 then xna j else xna j - 1) := by
        rw [List.length_map, List.length_reverse, List.length_take, hkj]
        exact Nat.min_eq_left hna
      have hstk : st.map (xcv P) = ((st.take (xna j)).reverse.map (xcv P)).reverse ++ (st.drop (xna j)).map (xcv P) := by
        rw [← List.map_reverse, List.reverse_reverse, ← List.map_append, List.take_append_drop]
      have hcats : 2 * (F0 m pc ls (st.map (xcv P))).monitorRoom + (((st.drop (xna j)).map (xcv P)).map fun v => v.category).sum ≤ 8 := by
        rw [xcv_cats hf]
        show 2 * 0 + _ ≤ 8
        omega
      rcases xlink0 hj with ⟨hns, -⟩ | ⟨hns, t, ht, -⟩
      · exact xs_after rfl (va_runS hK hM ⟨hB _ _ hrk rfl hns, hst⟩ ⟨xblind _ _ _, fun U a b => hU _ U a b⟩ rfl hvl hl.1 hstk hcats hd ⟨Nat.le_trans h1 hC1, Nat.le_trans h2 hC2⟩) hS hl h1 h2 (xWg.nm hW)
      · exact xs_after rfl (va_runSN hK hM ⟨hN _ _ hrk rfl t ht, hst, trivial⟩ ⟨xblind _ _ _, fun U a b => hU _ U a b⟩ rfl hvl hl.1 hstk hcats hd ⟨Nat.le_trans h1 hC1, Nat.le_trans h2 hC2⟩) hS hl h1 h2 (xWg.nm hW)
    · -- of an object
      rw [if_neg (by decide)] at h
      split at h
      · rename_i kr vs hvs
        obtain ⟨⟨hna, -, hrc⟩, h⟩ := xifW h
        unfold xcall at h
        obtain ⟨⟨hrk, hcat, h1, h2⟩, r, hM, g, hg, hW⟩ := xifW h
        cases hg
        have hrc : xrcv M kr (xow j) = true := by
          rcases hrc with z | z
          · exact absurd z (by decide)
          · exact z
        have hd : decode (xcode i) pc = .ok (.invokevirtual q, 3) := by rw [hd0]; rcases hn with z | z; exact absurd z (by decide : ¬ (3 : Nat) = 0); rw [z]; rfl
        have hvl0 : vs.length + 1 = xna j := by
          have := congrArg List.length hvs
          rw [List.length_reverse, List.length_take, Nat.min_eq_left hna, List.length_cons] at this
          exact this.symm
        have hvl : (vs.map (xcv P)).length = (bif Nat.beq (xki j) 0 then xna j else xna j - 1) := by
          rw [List.length_map, hkj]
          show vs.length = xna j - 1
          omega
        have hns : ns = 0 := by
          rcases xlink0 hj with h | ⟨-, t, -, h⟩
          · exact h.1
          · exact absurd hkj h
        have hrcv : ∃ b : Nat, xcv P (.ref kr) = .ref b ∧ ∃ cellB : Cell, H[b]? = some cellB ∧ cellB.vm.isStatics = false ∧ s0.vm.findClass (xcn (xow j)) = some cellB.cls := by
          unfold xrcv at hrc
          rcases Bool.or_eq_true_iff.mp hrc with z | z
          · obtain ⟨hk0, hk⟩ := xobj_spec z
            refine ⟨xPB P + xsg kr, xcr_own (xsg_lt hk hR.2.1), ?_⟩
            obtain ⟨h13, cell, q1, q2, q3, -⟩ := (hR.2.2.1 kr hk 0 _ hk0).1 rfl
            exact ⟨cell, q1, by rw [q3]; rfl, by rw [q2]; exact (hE.2.2.2.2.2.2.2.2.1.1 _ _ (xcls_at _ h13)).2.1⟩
          · simp only [Bool.and_eq_true] at z
            obtain ⟨w, hw, rfl⟩ : ∃ w : Nat, w < 4 ∧ kr = 1000 + w := x1004 (Nat.le_of_ble_eq_true z.1.1) (Nat.le_of_ble_eq_true z.1.2)
            refine ⟨xPK P w, xcr_str (by omega), ?_⟩
            obtain ⟨cell, q1, q2, q3⟩ := vk_recv hE.1 hw hS
            refine ⟨cell, q1, q2, ?_⟩
            rw [Nat.eq_of_beq_eq_true z.2]
            exact q3
        obtain ⟨b, hb1, hcb⟩ := hrcv
        have hstk : st.map (xcv P) = (vs.map (xcv P)).reverse ++ .ref b :: (st.drop (xna j)).map (xcv P) := by
          have e1 : st = vs.reverse ++ .ref kr :: st.drop (xna j) := by
            have e2 : st.take (xna j) = (.ref kr :: vs : List Value).reverse := by rw [← hvs, List.reverse_reverse]
            rw [List.reverse_cons] at e2
            have e3 := (List.take_append_drop (xna j) st).symm
            rw [e2] at e3
            rw [List.append_assoc] at e3
            exact e3
          have e4 := congrArg (List.map (xcv P)) e1
          rw [List.map_append, List.map_cons, hb1, List.map_reverse] at e4
          exact e4
        have hcats : 2 * (F0 m pc ls (st.map (xcv P))).monitorRoom + (((st.drop (xna j)).map (xcv P)).map fun v => v.category).sum ≤ 8 := by
          rw [xcv_cats hf]
          show 2 * 0 + _ ≤ 8
          omega
        have hsel := m4 hkj
        have hUv : ∀ U : State, U.heap = H → s0.WarmedH U.vm → xPc P (.ref kr :: vs) M (Value.ref b :: vs.map (xcv P)).toArray U := fun U a d => by
          have := hU (.ref kr :: vs) U a d
          rw [List.map_cons, hb1] at this
          exact this
        exact xs_after rfl (va_runV (C := xcn (xow j)) hK hM ⟨hB _ _ hrk rfl hns, hts _ hsel.1, by rw [← d1]; exact hts _ hsel.2⟩ ⟨xblind _ _ _, hcb, hUv⟩ rfl hvl hl.1 hstk hcats hd ⟨Nat.le_trans h1 hC1, Nat.le_trans h2 hC2⟩) hS hl h1 h2 (xWg.nm hW)
      · exact h.elim
    · -- a constructor
      rw [if_neg (by decide)] at h
      split at h
      · rename_i kr vs hvs
        obtain ⟨⟨hna, hk9, -⟩, h⟩ := xifW h
        unfold xcall at h
        obtain ⟨⟨hrk, hcat, h1, h2⟩, r, hM, g, hg, hW⟩ := xifW h
        cases hg
        have hd : decode (xcode i) pc = .ok (.invokespecial q, 3) := by rw [hd0]; rcases hn with z | z; exact absurd z (by decide : ¬ (3 : Nat) = 0); rw [z]; rfl
        have hvl0 : vs.length + 1 = xna j := by
          have := congrArg List.length hvs
          rw [List.length_reverse, List.length_take, Nat.min_eq_left hna, List.length_cons] at this
          exact this.symm
        have hvl : (vs.map (xcv P)).length = (bif Nat.beq (xki j) 0 then xna j else xna j - 1) := by
          rw [List.length_map, hkj]
          show vs.length = xna j - 1
          omega
        obtain ⟨b, hb1⟩ := xcr_ref (P := P) (hk9)
        have hstk : st.map (xcv P) = (vs.map (xcv P)).reverse ++ .ref b :: (st.drop (xna j)).map (xcv P) := by
          have e1 : st = vs.reverse ++ .ref kr :: st.drop (xna j) := by
            have e2 : st.take (xna j) = (.ref kr :: vs : List Value).reverse := by rw [← hvs, List.reverse_reverse]
            rw [List.reverse_cons] at e2
            have e3 := (List.take_append_drop (xna j) st).symm
            rw [e2] at e3
            rw [List.append_assoc] at e3
            exact e3
          have e4 := congrArg (List.map (xcv P)) e1
          rw [List.map_append, List.map_cons, show xcv P (.ref kr) = .ref b from hb1, List.map_reverse] at e4
          exact e4
        have hcats : 2 * (F0 m pc ls (st.map (xcv P))).monitorRoom + (((st.drop (xna j)).map (xcv P)).map fun v => v.category).sum ≤ 8 := by
          rw [xcv_cats hf]
          show 2 * 0 + _ ≤ 8
          omega
        obtain ⟨f1, f2, f3⟩ := m5 hkj
        have hUv : ∀ U : State, U.heap = H → s0.WarmedH U.vm → xPc P (.ref kr :: vs) M (Value.ref b :: vs.map (xcv P)).toArray U := fun U a d => by
          have := hU (.ref kr :: vs) U a d
          rw [List.map_cons, show xcv P (.ref kr) = .ref b from hb1] at this
          exact this
        rcases xlink0 hj with ⟨hns, -⟩ | ⟨hns, t, ht, -⟩
        · exact xs_after rfl (va_runI hK hM ⟨by have := hB (.ref kr :: vs) _ hrk rfl hns; rw [f3] at this; exact this, f2, hts _ f1⟩ ⟨xblind _ _ _, hUv⟩ rfl hvl hl.1 hstk hcats hd ⟨Nat.le_trans h1 hC1, Nat.le_trans h2 hC2⟩) hS hl h1 h2 (xWg.nm hW)
        · exact xs_after rfl (va_runIN hK hM ⟨by have := hN (.ref kr :: vs) _ hrk rfl t ht; rw [f3] at this; exact this, f2, hts _ f1⟩ ⟨xblind _ _ _, hUv⟩ rfl hvl hl.1 hstk hcats hd ⟨Nat.le_trans h1 hC1, Nat.le_trans h2 hC2⟩) hS hl h1 h2 (xWg.nm hW)
      · exact h.elim
  · exact h.elim
end
