/-! what the steps of fields, makings and calls rest on -/
theorem xrep_push {P : xP} {U : State} {H H1 : Heap} {M : xM} {n : Nat} (h : xrep P U H M) (hK : M.2.2.2 < 900) (hz : H1.size = H.size + 1) (o : ∀ q, q < H.size → H1[q]? = H[q]?) (hc : xcel P U H1 (xpush M n) (xnu M.2.2.2)) : xrep P U H1 (xpush M n) := by
  obtain ⟨h1, h2, h3, h4, h5, h6⟩ := h
  have hn := xnu_lt hK
  refine ⟨by rw [hz, h1]; show _ = xPB P + (M.2.2.2 + 1); omega, by show M.2.2.2 + 1 ≤ 900; omega, fun k hk => ?_, fun i hi => ?_, ?_, fun k i => ?_⟩
  · have hk : xsg k < M.2.2.2 + 1 := hk
    by_cases e : k = xnu M.2.2.2
    · subst e; exact hc
    · have hs : xsg k ≠ M.2.2.2 := fun q => e (xsg_inj (q.trans (xsg_nu hK).symm))
      exact (h3 k (by omega)).kept ((if_neg (by omega)).trans ((if_neg (fun q => e q.2)).trans (if_neg (by omega)))) (o _ (by omega)) (fun i => (if_neg e).trans ((if_neg (fun q => by have := xsg_lt (show xsg k < 900 by omega) (Nat.le_refl _); omega)).trans (if_neg (fun q => by have := xsg_lt (show xsg k < 900 by omega) (Nat.le_refl _); omega)))) (fun i => if_neg e) (fun i => if_neg e)
  · show (if 1998 = xnu M.2.2.2 then 0 else if 1998 = 1996 ∧ i = xnu M.2.2.2 then _ else if 1998 = 1995 then _ else M.1 1998 i) = _
    rw [if_neg (by omega), if_neg (by omega), if_neg (by omega)]; exact h4 i hi
  · show (if 1997 = xnu M.2.2.2 then 0 else if 1997 = 1996 ∧ 0 = xnu M.2.2.2 then _ else if 1997 = 1995 then _ else M.1 1997 0) = _
    rw [if_neg (by omega), if_neg (by omega), if_neg (by omega)]; exact h5
  · show (if k = xnu M.2.2.2 then 0 else M.2.2.1 k i) ≤ 1000
    split
    · omega
    · exact h6 k i
theorem xS_push {P : xP} {H0 H H1 : Heap} {locs : List Loc} (hS : va_S (xA0 P) H0 H locs) (hz : H1.size = H.size + 1) (o : ∀ q, q < H.size → H1[q]? = H[q]?) : va_S (xA0 P) H0 H1 locs := ⟨Nat.le_trans hS.1 (by omega), fun q h1 h2 => (o q (Nat.lt_of_lt_of_le h1 hS.1)).trans (hS.2.1 q h1 h2), hS.2.2⟩
theorem xtyf_ok : ∀ c, c < 12 → ∀ j, j < xnsl c → xtyf c j = .int ∨ xtyf c j = .boolean ∨ ((xtyf c j).isReference = true ∧ defaultValue (xtyf c j) = .null) := by decide +kernel
theorem xdflt {P : xP} {M : xM} {ci j w : Nat} (hci : xoc ci) (hj : j < xnsl ci) : defaultValue (xtyf ci j) = xfv P (xpush M w) (xnu M.2.2.2) ci j := by
  unfold xfv
  have e1 : (xpush M w).2.2.1 (xnu M.2.2.2) j = 0 := if_pos rfl
  have e2 : (xpush M w).1 (xnu M.2.2.2) j = 0 := if_pos rfl
  rw [e1, e2]
  rcases xtyf_ok ci hci.1 j hj with h | h | ⟨h, h2⟩
  · rw [h]; rfl
  · rw [h]; rfl
  · rw [if_pos h, h2]; rfl
theorem xgoodin (j : Nat) (hj : Cond.code (xy j) (xcode j) (xml j) (xrt j) ∈ xALL) : GoodIn xALL (xws j) := by
  intro w hw
  have hm : w ∈ xALL := by
    rcases List.mem_cons.mp hw with h | h
    · rw [h]; exact hj
    · exact h
  exact ⟨hm, good_of_word (List.mem_filter.mp hm).2⟩
section
variable {p : Program} {l : Launch} {e : Env} {R : Room} {s0 : State} {m : MethodId} {args : Array Value} {below : List Frame} {meth : Method} {cd : Code} {Q : State → Prop} {P : xP} {i rk : Nat}
variable {H : Heap} {locs : List Loc} {c s pc : Nat} {ls : Array Slot} {cc : ByteArray} {M : xM} {st : List Value}
theorem xs_get (hx : p.tables.exec = Jvm.exec) (hb : cd.code = cc) (hts : ∀ w ∈ xALL, w.before args s0 = true) (hown : s0.vm.findClass (xcn (xow i)) = some m.cls) (hE : xenv P s0) (hR : xrep P s0 H M) (hS : va_S (xA0 P) s0.heap H locs) {q k : Nat} {v : Value} (hv : xget i q M k = some v) (hd : decode cc pc = .ok (.getfield q, 3))
    (kk : W p l e R s0 m args below meth cd H locs c s Q (F0 m (pc + 3) ls ((v :: st).map (xcv P)))) : W p l e R s0 m args below meth cd H locs c s Q (F0 m pc ls ((.ref k :: st).map (xcv P))) := by
  have hK := hE.2.2.2.2.2.2.2.2.1
  unfold xget at hv
  split at hv
  · rename_i ci j d hfl
    have hff := xff_all _ (xfl_in hfl)
    split at hv
    · rename_i hd2
      obtain ⟨g1, g2, g3, g4, g5, -⟩ := hff.1 (by omega)
      split at hv
      · rename_i hob
        obtain ⟨hk0, hk⟩ := xobj_spec hob
        cases hv
        rw [List.map_cons, show xcv P (.ref k) = .ref (xPB P + xsg k) from xcr_own (xsg_lt hk hR.2.1)]
        refine xw_get hx hb hts hown hK g1 g2 g3 hR hk hk0 hd ?_
        have e1 : xfv P M k ci j = .int (M.1 k j) := by
          unfold xfv
          rcases (show d = 0 ∨ d = 1 by omega) with h | h
          · rw [g4 h]; rfl
          · rw [g5 h]; rfl
        rw [e1]
        exact kk
      · cases hv
    · split at hv
      · rename_i hd2 hd4
        obtain ⟨g1, g2, g3, -, -, -, -, -, g9⟩ := hff.1 (by omega)
        split at hv
        · rename_i hob
          obtain ⟨hk0, hk⟩ := xobj_spec hob
          split at hv
          · cases hv
          · rename_i r hr
            cases hv
            have hr9 : r < 1000 := by have := hR.2.2.2.2.2 k j; omega
            rw [List.map_cons, show xcv P (.ref k) = .ref (xPB P + xsg k) from xcr_own (xsg_lt hk hR.2.1)]
            refine xw_get hx hb hts hown hK g1 g2 g3 hR hk hk0 hd ?_
            have e1 : xfv P M k ci j = .ref (xPB P + xsg r) := by
              unfold xfv
              rw [if_pos (g9 (by omega)), hr]; rfl
            rw [e1]
            rw [List.map_cons, show xcv P (.ref r) = .ref (xPB P + xsg r) from xcr_own hr9] at kk
            exact kk
        · cases hv
      · split at hv
        · rename_i hq
          cases hv
          obtain ⟨z, hz, rfl⟩ : ∃ z, z < 4 ∧ k = 1000 + z := ⟨k - 1000, by omega, by omega⟩
          rw [List.map_cons, show xcv P (.ref (1000 + z)) = .ref (xPK P z) from xcr_str (by omega)]
          rw [List.map_cons, show 1000 + z + 10 = 1010 + z by omega, show xcv P (.ref (1010 + z)) = .ref (xPV P z) from xcr_sby (by omega)] at kk
          exact vk_getf hx hb (hE.1.1 z hz).2.2.1 hS hown (hts _ (hff.2.1 hq.1)) (fun _ h => h) hd kk
        · split at hv
          · rename_i hq
            cases hv
            obtain ⟨z, hz, rfl⟩ : ∃ z, z < 4 ∧ k = 1000 + z := ⟨k - 1000, by omega, by omega⟩
            rw [List.map_cons, show xcv P (.ref (1000 + z)) = .ref (xPK P z) from xcr_str (by omega)]
            exact vk_getf hx hb (hE.1.1 z hz).2.1 hS hown (hts _ (hff.2.2.1 hq.1)) (fun _ h => h) hd kk
          · cases hv
  · cases hv
theorem xs_put (hx : p.tables.exec = Jvm.exec) (hb : cd.code = cc) (hts : ∀ w ∈ xALL, w.before args s0 = true) (hown : s0.vm.findClass (xcn (xow i)) = some m.cls) (hE : xenv P s0) (hini : xki i = 2 → meth.name = "<init>") (hR : xrep P s0 H M) (hS : va_S (xA0 P) s0.heap H locs) {q k : Nat} {v : Value} {M' : xM} (hv : xput i q M k v = some M') (hd : decode cc pc = .ok (.putfield q, 3))
    (kk : ∀ (H1 : Heap) (locs1 : List Loc), xrep P s0 H1 M' → va_S (xA0 P) s0.heap H1 locs1 → W p l e R s0 m args below meth cd H1 locs1 c s Q (F0 m (pc + 3) ls (st.map (xcv P)))) : W p l e R s0 m args below meth cd H locs c s Q (F0 m pc ls ((v :: .ref k :: st).map (xcv P))) := by
  have hK := hE.2.2.2.2.2.2.2.2.1
  unfold xput at hv
  split at hv
  · rename_i ci j d x hfl
    have hff := xff_all _ (xfl_in hfl)
    split at hv
    · rename_i hq
      cases hv
      obtain ⟨hob, hd2⟩ := hq
      obtain ⟨hk0, hk⟩ := xobj_spec hob
      obtain ⟨g1, g2, g3, g4, g5, g6, -⟩ := hff.1 (by omega)
      rw [List.map_cons, List.map_cons, show xcv P (.ref k) = .ref (xPB P + xsg k) from xcr_own (xsg_lt hk hR.2.1)]
      have hty : (d = 0 ∧ xtyf ci j = .int) ∨ ((x = 0 ∨ x = 1) ∧ xtyf ci j = .boolean) := by
        rcases hd2 with h | ⟨h, h2⟩
        · exact Or.inl ⟨h, g4 h⟩
        · exact Or.inr ⟨h2, g5 h⟩
      refine xw_put hx hb hts hown hK g1 g2 g3 (g6 (by omega)) hR hk hk0 (v := .int x) ?_ ?_ hd fun H1 z e1 e2 e3 => kk H1 _ ?_ (xS_put hS e2 e3)
      · rcases hty with ⟨-, h⟩ | ⟨h1, h⟩
        · rw [h]; rfl
        · rw [h]; rcases h1 with rfl | rfl <;> rfl
      · rcases hty with ⟨-, h⟩ | ⟨h1, h⟩
        · rw [h]; rfl
        · rw [h]; rcases h1 with rfl | rfl <;> rfl
      · refine xrep_fld hR hk hk0 g2 rfl (fun k' hk' => ⟨fun j => if_neg (fun q => hk' q.1), fun _ => rfl, fun _ => rfl⟩) (fun z hz => ?_) e1 e2 e3 (hR.2.2.2.2.2 k)
        have hnr : (xtyf ci j).isReference = false := by rcases hty with ⟨-, h⟩ | ⟨-, h⟩ <;> rw [h] <;> rfl
        by_cases hzj : z = j
        · subst hzj
          unfold updV xfv
          rw [if_pos rfl, hnr]
          show _ = Value.int (if k = k ∧ z = z then x else M.1 k z)
          rw [if_pos ⟨rfl, rfl⟩]
        · have e5 : xfv P (xsi M k j x) k ci z = xfv P M k ci z := by
            unfold xfv
            rw [show (xsi M k j x).1 k z = M.1 k z from if_neg (fun q => hzj q.2)]
            rfl
          rw [e5]
          exact if_neg hzj
    · cases hv
  · rename_i ci j d r hfl
    have hff := xff_all _ (xfl_in hfl)
    split at hv
    · rename_i hq
      cases hv
      obtain ⟨hob, hrK, hr9, hd2⟩ := hq
      obtain ⟨hk0, hk⟩ := xobj_spec hob
      obtain ⟨g1, g2, g3, -, -, -, g7, g8, g9⟩ := hff.1 (by omega)
      rw [List.map_cons, List.map_cons, show xcv P (.ref k) = .ref (xPB P + xsg k) from xcr_own (xsg_lt hk hR.2.1), show xcv P (.ref r) = .ref (xPB P + xsg r) from xcr_own hr9]
      have hrf : (xtyf ci j).isReference = true := g9 (by omega)
      have hnn : narrow (xtyf ci j) (.ref (xPB P + xsg r)) = .ref (xPB P + xsg r) ∧ fits (xtyf ci j) (.ref (xPB P + xsg r)) = true := by
        revert hrf
        cases xtyf ci j <;> intro hrf <;> first | (cases hrf; done) | exact ⟨rfl, rfl⟩
      have hpost : ∀ (H1 : Heap) (z : Nat), t_OB (xPB P + xsg k) ((xPD P).1 ci) (xnsl ci) ((xPD P).2 ci) H1 (updV (xfv P M k ci) j (.ref (xPB P + xsg r))) → H1.size = H.size → (∀ q, q ≠ xPB P + xsg k → H1[q]? = H[q]?) → W p l e R s0 m args below meth cd H1 (locs ++ [⟨xPB P + xsg k, z⟩]) c s Q (F0 m (pc + 3) ls (st.map (xcv P))) := by
        intro H1 z e1 e2 e3
        refine kk H1 _ ?_ (xS_put hS e2 e3)
        refine xrep_fld hR hk hk0 g2 rfl (fun k' hk' => ⟨fun _ => rfl, fun _ => rfl, fun j => if_neg (fun q => hk' q.1)⟩) (fun z hz => ?_) e1 e2 e3 (fun i => xsr_le hR.2.2.2.2.2 hr9 k i)
        by_cases hzj : z = j
        · subst hzj
          unfold updV xfv
          rw [if_pos rfl, if_pos hrf]
          show _ = xrv P (if k = k ∧ z = z then r + 1 else M.2.2.1 k z)
          rw [if_pos ⟨rfl, rfl⟩]; rfl
        · have e5 : xfv P (xsr M k j (r + 1)) k ci z = xfv P M k ci z := by
            unfold xfv
            rw [show (xsr M k j (r + 1)).2.2.1 k z = M.2.2.1 k z from if_neg (fun q => hzj q.2)]
            rfl
          rw [e5]
          exact if_neg hzj
      rcases hd2 with h2 | ⟨h2, h3, h4⟩
      · exact xw_put hx hb hts hown hK g1 g2 g3 (g7 h2) hR hk hk0 hnn.1 hnn.2 hd hpost
      · exact xw_putF hx hb hts hown hK g1 g2 g3 (g8 h2).1 (by rw [(g8 h2).2, h4]) (hini h3) hR hk hk0 hnn.1 hnn.2 hd hpost
    · cases hv
  · cases hv
theorem xs_new (hx : p.tables.exec = Jvm.exec) (hb : cd.code = cc) (hts : ∀ w ∈ xALL, w.before args s0 = true) (hown : s0.vm.findClass (xcn (xow i)) = some m.cls) (hE : xenv P s0) (hR : xrep P s0 H M) (hS : va_S (xA0 P) s0.heap H locs) {q ci : Nat} (hv : xnw (xow i) q = some ci) (hk : xkd (xnu M.2.2.2) = (0, ci)) (h1 : c + 1 ≤ R.cells) (h2 : s + xnsl ci ≤ R.slots) (hd : decode cc pc = .ok (.new q, 3))
    (kk : ∀ (H1 : Heap) (locs1 : List Loc), xrep P s0 H1 (xpush M 0) → va_S (xA0 P) s0.heap H1 locs1 → W p l e R s0 m args below meth cd H1 locs1 (c + 1) (s + xnsl ci) Q (F0 m (pc + 3) ls ((.ref (xnu M.2.2.2) :: st).map (xcv P)))) : W p l e R s0 m args below meth cd H locs c s Q (F0 m pc ls (st.map (xcv P))) := by
  obtain ⟨f1, f2, f3, hci⟩ := xnw_all _ (xnw_in hv)
  have hK := hE.2.2.2.2.2.2.2.2.1
  have hKn := hK.1 ci _ (xcls_at ci hci)
  have hK184 : M.2.2.2 < 900 := by
    have := xkd_lt hk (by decide)
    have h9 := hR.2.1
    unfold xnu at this
    split at this <;> omega
  refine W.newcK hx hb hown (hts _ f1) (hts _ f2) (hts _ f3) rfl hd h1 h2 hKn.2.1 rfl fun H1 kC hkC e1 z1 o1 => ?_
  have hk2 := kk H1 locs (xrep_push hR hK184 z1 o1 ?_) (xS_push hS z1 o1)
  · rw [List.map_cons, show xcv P (.ref (xnu M.2.2.2)) = .ref (xPB P + M.2.2.2) from (xcr_own (xnu_lt hK184)).trans (by rw [xsg_nu hK184]), ← hR.1] at hk2
    exact hk2
  · intro t n hkt
    rw [xkM_own hk (by decide)] at hkt
    cases hkt
    refine ⟨fun _ => ⟨hci, ?_⟩, fun q => absurd rfl q⟩
    rw [xsg_nu hK184, ← hR.1]
    exact (u_born (xtyf ci) hts (xcls_ws ci hci) hKn hkC e1 (xcls_ty ci hci)).to fun j hj => xdflt hci hj
theorem xs_newa (hx : p.tables.exec = Jvm.exec) (hb : cd.code = cc) (hts : ∀ w ∈ xALL, w.before args s0 = true) (hE : xenv P s0) (hR : xrep P s0 H M) (hS : va_S (xA0 P) s0.heap H locs) {ty : ArrayType} {x : Int32} (ht9 : xatag ty < 9) (hk : xkd (xnu M.2.2.2) = (xatag ty, x.toNatClampNeg) ∨ (144 ≤ xnu M.2.2.2 ∧ xatag ty = 1 ∧ M.2.2.2 < 900)) (h0 : ¬ x < 0) (h1 : c + 1 ≤ R.cells) (h2 : s + x.toNatClampNeg ≤ R.slots) (h3 : x.toNatClampNeg ≤ 10000) (hd : decode cc pc = .ok (.newarray ty, 2))
    (kk : ∀ (H1 : Heap) (locs1 : List Loc), xrep P s0 H1 (xpush M x.toNatClampNeg) → va_S (xA0 P) s0.heap H1 locs1 → W p l e R s0 m args below meth cd H1 locs1 (c + 1) (s + x.toNatClampNeg) Q (F0 m (pc + 2) ls ((.ref (xnu M.2.2.2) :: st).map (xcv P)))) : W p l e R s0 m args below meth cd H locs c s Q (F0 m pc ls ((.int x :: st).map (xcv P))) := by
  have hK184 : M.2.2.2 < 900 := by
    rcases hk with hk | hk
    · have := xkd_lt hk ht9
      have h9 := hR.2.1
      unfold xnu at this
      split at this <;> omega
    · exact hk.2.2
  have hkM : xkM (xpush M x.toNatClampNeg) (xnu M.2.2.2) = (xatag ty, x.toNatClampNeg) := by
    rcases hk with hk | ⟨hk, ht, -⟩
    · exact xkM_own hk ht9
    · rw [xkM_row hk, ht]
      have e1 : (xpush M x.toNatClampNeg).1 1996 (xnu M.2.2.2) = Int32.ofNat x.toNatClampNeg := (if_neg (by have := xnu_lt hK184; omega)).trans (if_pos ⟨rfl, rfl⟩)
      rw [e1, show Int32.ofNat x.toNatClampNeg = nI x.toNatClampNeg from rfl, nI_clamp (by omega)]
  have key : ∀ (t : Nat) (harr : (Cond.arrayClass (newarray.typeOf ty)).before args s0 = true), xkM (xpush M x.toNatClampNeg) (xnu M.2.2.2) = (t, x.toNatClampNeg) → t ≠ 0 → t < 5 → newarray.typeOf ty = xty t → (∀ i, defaultValue (xty t) = xev P (xpush M x.toNatClampNeg) t (xnu M.2.2.2) i) → componentBytes (newarray.typeOf ty) ≤ 8 → W p l e R s0 m args below meth cd H locs c s Q (F0 m pc ls ((.int x :: st).map (xcv P))) := by
    intro t harr hkt ht0 ht5 hty hdf hcb
    refine va_newaK hx hb harr rfl hd rfl h0 rfl ?_ h1 h2 rfl fun H1 cA e1 z1 o1 hAr hNm => ?_
    · calc x.toNatClampNeg * componentBytes (newarray.typeOf ty) ≤ 10000 * 8 := Nat.mul_le_mul h3 hcb
        _ ≤ 536870912 := by decide
    have hk2 := kk H1 locs (xrep_push hR hK184 z1 o1 ?_) (xS_push hS z1 o1)
    · rw [List.map_cons, show xcv P (.ref (xnu M.2.2.2)) = .ref (xPB P + M.2.2.2) from (xcr_own (xnu_lt hK184)).trans (by rw [xsg_nu hK184]), ← hR.1] at hk2
      exact hk2
    · intro t' n hkt'
      rw [hkt] at hkt'
      cases hkt'
      refine ⟨fun q => absurd q ht0, fun _ => ⟨by omega, cA, by rw [← hty]; exact hAr, ?_, ?_⟩⟩
      · have hRA : va_RA s0 cA (newarray.typeOf ty) := by
          cases ty <;> exact hNm
        rw [← hty]; exact hRA
      · rw [xsg_nu hK184, ← hR.1, e1, hty]
        congr 2
        funext i
        exact hdf i
  have z0 : ∀ i, (xpush M x.toNatClampNeg).1 (xnu M.2.2.2) i = 0 := fun i => if_pos rfl
  have z1 : ∀ i, (xpush M x.toNatClampNeg).2.1 (xnu M.2.2.2) i = 0 := fun i => if_pos rfl
  cases ty <;> first | (exact absurd ht9 (by decide)) | skip
  all_goals first
    | exact key 1 (hts _ xarI) hkM (by decide) (by decide) rfl (fun i => by show Value.int 0 = Value.int _; rw [z0]) (by decide)
    | exact key 2 (hts _ xarJ) hkM (by decide) (by decide) rfl (fun i => by show Value.long 0 = Value.long _; rw [z1]) (by decide)
    | exact key 3 (hts _ xarB) hkM (by decide) (by decide) rfl (fun i => by show Value.int 0 = Value.int _; rw [z0]) (by decide)
    | exact key 4 (hts _ xarZ) hkM (by decide) (by decide) rfl (fun i => by show Value.int 0 = Value.int _; rw [z0]) (by decide)
theorem xs_anew (hx : p.tables.exec = Jvm.exec) (hb : cd.code = cc) (hts : ∀ w ∈ xALL, w.before args s0 = true) (hown : s0.vm.findClass (xcn (xow i)) = some m.cls) (hE : xenv P s0) (hR : xrep P s0 H M) (hS : va_S (xA0 P) s0.heap H locs) {q : Nat} {x : Int32} (hv : xnw (xow i) q = some 3) (hk : xkd (xnu M.2.2.2) = (5, x.toNatClampNeg)) (h0 : ¬ x < 0) (h1 : c + 1 ≤ R.cells) (h2 : s + x.toNatClampNeg ≤ R.slots) (h3 : x.toNatClampNeg ≤ 10000) (hd : decode cc pc = .ok (.anewarray q, 3))
    (kk : ∀ (H1 : Heap) (locs1 : List Loc), xrep P s0 H1 (xpush M 0) → va_S (xA0 P) s0.heap H1 locs1 → W p l e R s0 m args below meth cd H1 locs1 (c + 1) (s + x.toNatClampNeg) Q (F0 m (pc + 3) ls ((.ref (xnu M.2.2.2) :: st).map (xcv P)))) : W p l e R s0 m args below meth cd H locs c s Q (F0 m pc ls ((.int x :: st).map (xcv P))) := by
  obtain ⟨f1, f2, f3, hci⟩ := xnw_all _ (xnw_in hv)
  have hK184 : M.2.2.2 < 900 := by
    have := xkd_lt hk (by decide)
    have h9 := hR.2.1
    unfold xnu at this
    split at this <;> omega
  have hover : va_AO "ArrowOrders$Net" s0 := hE.2.2.2.2.2.2.2.2.2.1
  refine W.anew (C := "ArrowOrders$Net") hx hb hown (hts _ f1) (va_AO.use hover) rfl hd rfl h0 (by omega) h1 h2 fun cA kA comp g1 g2 g3 g4 => ?_
  generalize hH1 : H.push ({ cls := cA, slots := Array.replicate x.toNatClampNeg .null, vm := .none } : Cell) = H1
  have z1 : H1.size = H.size + 1 := by rw [← hH1, Array.size_push]
  have e1 : H1[H.size]? = some (arrV cA x.toNatClampNeg (fun _ => .null)) := by rw [← hH1, Array.getElem?_push_size, ← arrV_new]
  have o1 : ∀ q : Nat, q < H.size → H1[q]? = H[q]? := fun q hq => by rw [← hH1, Array.getElem?_push, if_neg (Nat.ne_of_lt hq)]
  have hAr : ArrOfT s0 cA (.object "ArrowOrders$Net") := fun N z => ⟨(fun k h => by cases h), kA, g2, comp, g3⟩
  have hk2 := kk H1 locs (xrep_push hR hK184 z1 o1 ?_) (xS_push hS z1 o1)
  · rw [List.map_cons, show xcv P (.ref (xnu M.2.2.2)) = .ref (xPB P + M.2.2.2) from (xcr_own (xnu_lt hK184)).trans (by rw [xsg_nu hK184]), ← hR.1] at hk2
    exact hk2
  · intro t n hkt
    rw [xkM_own hk (by decide)] at hkt
    cases hkt
    refine ⟨fun q => absurd q (by decide), fun _ => ⟨by decide, cA, hAr, ⟨kA, comp, g2, g3, g4, g1⟩, ?_⟩⟩
    rw [xsg_nu hK184, ← hR.1, e1]
    congr 2
    funext i
    show _ = xrv P ((xpush M 0).2.2.1 (xnu M.2.2.2) i)
    rw [show (xpush M 0).2.2.1 (xnu M.2.2.2) i = 0 from if_pos rfl]
    rfl
end
