section
variable {p : Program} {l : Launch} {e : Env} {R : Room} {s0 : State} {m : MethodId} {args : Array Value} {below : List Frame} {meth : Method} {cd : Code} {Q : State → Prop} {P : xP} {i rk : Nat}
set_option maxHeartbeats 4000000 in
set_option maxRecDepth 100000 in
theorem xstepW (hC : xctx p R s0 m args meth cd P i rk) {pc n : Nat} {op : Instr} (hd0 : decode (xcode i) pc = .ok (op, n)) (hn : xsz op = 0 ∨ n = xsz op) {l' : xL} {st : List Value} {M : xM} {c s : Nat} (h : xWA p l e R s0 m args below meth cd Q P i (xdo i rk pc l' st M c s op)) : xWg p l e R s0 m args below meth cd Q P i pc l' st M c s := by
  intro H locs ls hR hS hl hc hs
  obtain ⟨hx, hb, hml, hown, hts, hini, hE, hR1, hR2, hC1, hC2⟩ := id hC
  have hf := hE.2.2.2.2.2.2.2.2.2.2.1
  have hd : decode (xcode i) pc = .ok (op, if xsz op = 0 then n else xsz op) := by
    rw [hd0]
    rcases hn with q | q
    · rw [if_pos q]
    · by_cases z : xsz op = 0
      · rw [if_pos z]
      · rw [if_neg z, q]
  unfold xdo at h
  split at h
  · exact lv_iconst hx hb hd rfl (xgoW h H locs ls hR hS hl hc hs)
  · exact lv_bipush hx hb hd rfl (xgoW h H locs ls hR hS hl hc hs)
  · exact lv_sipush hx hb hd rfl (xgoW h H locs ls hR hS hl hc hs)
  · exact lv_lconst hx hb hd rfl (xgoW h H locs ls hR hS hl hc hs)
  · rename_i q
    split at h
    · rename_i v _ hv
      exact lv_ldc hx hb hown (hts _ (xkI_all _ (xkI_in hv))) hd (xgoW h H locs ls hR hS hl hc hs)
    · rename_i j _ hj
      obtain ⟨hj4, t, ht⟩ := xkS_in hj
      have hg := xgoW h H locs ls hR hS hl hc hs
      rw [List.map_cons, show xcv P (.ref (1000 + j)) = .ref (xPK P j) from xcr_str (by omega)] at hg
      have hZ : vk_R (xcn (xow i)) q t (xPK P j) s0 := xenvS hE ht
      exact va_ldcS (tx := t) (q := xPK P j) hx hb hown hZ hd hg
    · exact h.elim
  · split at h
    · rename_i v hv
      exact lv_ldcw hx hb hown (hts _ (xkI_all _ (xkI_in hv))) hd (xgoW h H locs ls hR hS hl hc hs)
    · exact h.elim
  · split at h
    · rename_i v hv
      exact lv_ldc2 hx hb hown (hts _ (xkJ_all _ (xkJ_in hv))) hd (xgoW h H locs ls hR hS hl hc hs)
    · exact h.elim
  · split at h
    · rename_i x hv
      exact lv_iload_n hx hb hd rfl (xl_at hl hv) (xgoW h H locs ls hR hS hl hc hs)
    · exact h.elim
  · split at h
    · rename_i x hv
      exact lv_iload hx hb hd (xl_at hl hv) (xgoW h H locs ls hR hS hl hc hs)
    · exact h.elim
  · split at h
    · rename_i x hv
      exact lv_lload_n hx hb hd rfl (xl_at hl hv) (xgoW h H locs ls hR hS hl hc hs)
    · exact h.elim
  · split at h
    · rename_i x hv
      exact lv_lload hx hb hd (xl_at hl hv) (xgoW h H locs ls hR hS hl hc hs)
    · exact h.elim
  · split at h
    · rename_i x hv
      obtain ⟨hx9, h⟩ := xifN h
      obtain ⟨y, hy⟩ := xcr_ref (P := P) hx9
      have hg := xgoW h H locs ls hR hS hl hc hs
      have hv2 := xl_at hl hv
      rw [List.map_cons, show xcv P (.ref x) = .ref y from hy] at hg
      rw [show xcv P (.ref x) = .ref y from hy] at hv2
      exact lv_aload_n hx hb hd rfl hv2 hg
    · rename_i hv
      exact lv_aload_nN hx hb hd rfl (xl_at hl hv) (xgoW h H locs ls hR hS hl hc hs)
    · exact h.elim
  · split at h
    · rename_i x hv
      obtain ⟨hx9, h⟩ := xifN h
      obtain ⟨y, hy⟩ := xcr_ref (P := P) hx9
      have hg := xgoW h H locs ls hR hS hl hc hs
      have hv2 := xl_at hl hv
      rw [List.map_cons, show xcv P (.ref x) = .ref y from hy] at hg
      rw [show xcv P (.ref x) = .ref y from hy] at hv2
      exact lv_aload hx hb hd hv2 hg
    · rename_i hv
      exact lv_aloadN hx hb hd (xl_at hl hv) (xgoW h H locs ls hR hS hl hc hs)
    · exact h.elim
  · rename_i k x st
    obtain ⟨hk, h⟩ := xifW h
    exact lv_istore_n hx hb hd rfl hl hk (xl_st hf (v := .int x)) (fun ls' hl' => xgoW h H locs ls' hR hS hl' hc hs)
  · rename_i k x st
    obtain ⟨hk, h⟩ := xifW h
    exact lv_istore hx hb hd hl hk (xl_st hf (v := .int x)) (fun ls' hl' => xgoW h H locs ls' hR hS hl' hc hs)
  · rename_i k x st
    obtain ⟨hk, h⟩ := xifW h
    exact lv_lstore_n hx hb hd rfl hl hk (xl_st2 hf (v := .long x)) (fun ls' hl' => xgoW h H locs ls' hR hS hl' hc hs)
  · rename_i k x st
    obtain ⟨hk, h⟩ := xifW h
    exact lv_lstore hx hb hd hl hk (xl_st2 hf (v := .long x)) (fun ls' hl' => xgoW h H locs ls' hR hS hl' hc hs)
  · rename_i k x st
    obtain ⟨⟨hk, hx9⟩, h⟩ := xifW h
    obtain ⟨y, hy⟩ := xcr_ref (P := P) hx9
    rw [List.map_cons, show xcv P (.ref x) = .ref y from hy]
    exact lv_astore_n hx hb hd rfl hl hk (by rw [← hy]; exact xl_st hf (v := .ref x)) (fun ls' hl' => xgoW h H locs ls' hR hS hl' hc hs)
  · obtain ⟨hk, h⟩ := xifW h
    exact lv_astore_nN hx hb hd rfl hl hk (xl_st hf (v := .null)) (fun ls' hl' => xgoW h H locs ls' hR hS hl' hc hs)
  · rename_i k x st
    obtain ⟨⟨hk, hx9⟩, h⟩ := xifW h
    obtain ⟨y, hy⟩ := xcr_ref (P := P) hx9
    rw [List.map_cons, show xcv P (.ref x) = .ref y from hy]
    exact lv_astore hx hb hd hl hk (by rw [← hy]; exact xl_st hf (v := .ref x)) (fun ls' hl' => xgoW h H locs ls' hR hS hl' hc hs)
  · rename_i k v
    split at h
    · rename_i x hv
      obtain ⟨hk, h⟩ := xifW h
      obtain ⟨j, hj⟩ := xl_at2 (P := P) hv
      exact lv_iinc hx hb hd hl hj rfl hk (xl_st hf (v := .int (x + Int32.ofInt v))) (fun ls' hl' => xgoW h H locs ls' hR hS hl' hc hs)
    · exact h.elim
  · exact lv_iadd hx hb hd (xgoW h H locs ls hR hS hl hc hs)
  · exact lv_isub hx hb hd (xgoW h H locs ls hR hS hl hc hs)
  · exact lv_imul hx hb hd (xgoW h H locs ls hR hS hl hc hs)
  · exact lv_iand hx hb hd (xgoW h H locs ls hR hS hl hc hs)
  · exact lv_ior hx hb hd (xgoW h H locs ls hR hS hl hc hs)
  · exact lv_ixor hx hb hd (xgoW h H locs ls hR hS hl hc hs)
  · obtain ⟨hne, h⟩ := xifN h
    exact lv_idiv hx hb hd hne (xgoW h H locs ls hR hS hl hc hs)
  · obtain ⟨hne, h⟩ := xifN h
    exact lv_irem hx hb hd hne (xgoW h H locs ls hR hS hl hc hs)
  · exact lv_ineg hx hb hd (xgoW h H locs ls hR hS hl hc hs)
  · exact lv_ishl hx hb hd (xgoW h H locs ls hR hS hl hc hs)
  · exact lv_ishr hx hb hd (xgoW h H locs ls hR hS hl hc hs)
  · exact lv_iushr hx hb hd rfl (xgoW h H locs ls hR hS hl hc hs)
  · exact lv_ladd hx hb hd (xgoW h H locs ls hR hS hl hc hs)
  · exact lv_lsub hx hb hd (xgoW h H locs ls hR hS hl hc hs)
  · exact lv_lmul hx hb hd (xgoW h H locs ls hR hS hl hc hs)
  · exact lv_lor hx hb hd (xgoW h H locs ls hR hS hl hc hs)
  · exact lv_lshl hx hb hd rfl (xgoW h H locs ls hR hS hl hc hs)
  · exact W.lcmp hx hb hd (xgoW h H locs ls hR hS hl hc hs)
  · exact lv_i2l hx hb hd rfl (xgoW h H locs ls hR hS hl hc hs)
  · exact lv_l2i hx hb hd rfl (xgoW h H locs ls hR hS hl hc hs)
  · exact lv_i2b hx hb hd rfl (xgoW h H locs ls hR hS hl hc hs)
  · exact lv_i2c hx hb hd rfl (xgoW h H locs ls hR hS hl hc hs)
  · obtain ⟨hk, h⟩ := xifW h
    exact lv_dup hx hb hd (by rw [xcv_cat hf]; exact hk) (xgoW h H locs ls hR hS hl hc hs)
  · obtain ⟨hk, h⟩ := xifW h
    exact lv_dup2_11 hx hb hd (by rw [xcv_cat hf]; exact hk.1) (by rw [xcv_cat hf]; exact hk.2) (xgoW h H locs ls hR hS hl hc hs)
  · obtain ⟨hk, h⟩ := xifW h
    exact lv_pop hx hb hd (by rw [xcv_cat hf]; exact hk) (xgoW h H locs ls hR hS hl hc hs)
  · obtain ⟨t, ht, h1, h2⟩ := xbrW _ h
    exact lv_if_eq hx hb hd ht (fun q => h1 q H locs ls hR hS hl hc hs) (fun q => h2 q H locs ls hR hS hl hc hs)
  · obtain ⟨t, ht, h1, h2⟩ := xbrW _ h
    exact lv_if_ne hx hb hd ht (fun q => h1 q H locs ls hR hS hl hc hs) (fun q => h2 (fun z => z q) H locs ls hR hS hl hc hs)
  · obtain ⟨t, ht, h1, h2⟩ := xbrW _ h
    exact lv_if_lt hx hb hd ht (fun q => h1 q H locs ls hR hS hl hc hs) (fun q => h2 q H locs ls hR hS hl hc hs)
  · obtain ⟨t, ht, h1, h2⟩ := xbrW _ h
    exact lv_if_ge hx hb hd ht (fun q => h1 q H locs ls hR hS hl hc hs) (fun q => h2 q H locs ls hR hS hl hc hs)
  · obtain ⟨t, ht, h1, h2⟩ := xbrW _ h
    exact lv_if_gt hx hb hd ht (fun q => h1 q H locs ls hR hS hl hc hs) (fun q => h2 q H locs ls hR hS hl hc hs)
  · obtain ⟨t, ht, h1, h2⟩ := xbrW _ h
    exact lv_if_le hx hb hd ht (fun q => h1 q H locs ls hR hS hl hc hs) (fun q => h2 q H locs ls hR hS hl hc hs)
  · obtain ⟨t, ht, h1, h2⟩ := xbrW _ h
    exact lv_icmp_eq hx hb hd ht (fun q => h1 q H locs ls hR hS hl hc hs) (fun q => h2 q H locs ls hR hS hl hc hs)
  · obtain ⟨t, ht, h1, h2⟩ := xbrW _ h
    exact lv_icmp_ne hx hb hd ht (fun q => h1 q H locs ls hR hS hl hc hs) (fun q => h2 (fun z => z q) H locs ls hR hS hl hc hs)
  · obtain ⟨t, ht, h1, h2⟩ := xbrW _ h
    exact lv_icmp_lt hx hb hd ht (fun q => h1 q H locs ls hR hS hl hc hs) (fun q => h2 q H locs ls hR hS hl hc hs)
  · obtain ⟨t, ht, h1, h2⟩ := xbrW _ h
    exact lv_icmp_ge hx hb hd ht (fun q => h1 q H locs ls hR hS hl hc hs) (fun q => h2 q H locs ls hR hS hl hc hs)
  · obtain ⟨t, ht, h1, h2⟩ := xbrW _ h
    exact lv_icmp_gt hx hb hd ht (fun q => h1 q H locs ls hR hS hl hc hs) (fun q => h2 q H locs ls hR hS hl hc hs)
  · obtain ⟨t, ht, h1, h2⟩ := xbrW _ h
    exact lv_icmp_le hx hb hd ht (fun q => h1 q H locs ls hR hS hl hc hs) (fun q => h2 q H locs ls hR hS hl hc hs)
  · rename_i o x st
    obtain ⟨hx9, h⟩ := xifN h
    obtain ⟨t, ht, h1⟩ := xjpW h
    obtain ⟨y, hy⟩ := xcr_ref (P := P) hx9
    rw [List.map_cons, show xcv P (.ref x) = .ref y from hy]
    exact lv_ifnonnull hx hb hd ht (h1 H locs ls hR hS hl hc hs)
  · exact lv_ifnonnullN hx hb hd (xgoW h H locs ls hR hS hl hc hs)
  · obtain ⟨t, ht, h1⟩ := xjpW h
    exact lv_goto hx hb hd ht (h1 H locs ls hR hS hl hc hs)
  · rename_i d lo hi offs x st
    obtain ⟨⟨e1, e2, e3, e4⟩, h⟩ := xifW h
    obtain ⟨t, ht, h1⟩ := xjpW h
    by_cases ho : x.toInt < lo ∨ hi < x.toInt
    · rw [xsw_out e2 (by omega) (by omega)] at ht
      exact lv_tableOut hx hb hd ho ht (h1 H locs ls hR hS hl hc hs)
    · have hi2 := xsw_inn (offs := offs.toList) (lo := lo) (d := d) (x := x) e2 (by omega) (by omega) (by omega)
      rw [Array.getElem?_toList] at hi2
      exact lv_tableIn hx hb hd (by omega) (by omega) hi2 ht (h1 H locs ls hR hS hl hc hs)
  · rename_i x k st
    split at h
    · rename_i v hv
      unfold xald at hv
      split at hv
      · rename_i hin
        cases hv
        obtain ⟨ht, hk, h0, hn⟩ := xin1_spec hin
        obtain ⟨cA, hA, -, hcell⟩ := xcel_arr (n := (xkM M k).2) hR hk (Prod.ext ht rfl) (by decide)
        rw [List.map_cons, List.map_cons, show xcv P (.ref k) = .ref (xPB P + xsg k) from xcr_own (xsg_lt hk hR.2.1)]
        exact W.iald (v := .int (M.1 k x.toNatClampNeg)) hx hb hcell (hA _ _) (fun q => by cases q) (by rw [arrV_size]; exact fun q => q.elim h0 (fun q => absurd hn (Nat.not_lt.mpr q))) (by rw [arrV_read _ _ hn]; rfl) rfl rfl hd (xgoW h H locs ls hR hS hl hc hs)
      · split at hv
        · rename_i hq
          cases hv
          obtain ⟨rfl, h0, hn⟩ := hq
          have hL : (M.1 1997 0).toNatClampNeg = xPL P := by rw [hR.2.2.2.2.1]; exact nI_clamp (by have := hE.2.2.2.2.2.2.2.2.2.2.2; omega)
          rw [hL] at hn
          rw [List.map_cons, List.map_cons, show xcv P (.ref 1998) = .ref (xPs P) from xcr_scr]
          have hg := xgoW h H locs ls hR hS hl hc hs
          rw [hR.2.2.2.1 _ hn] at hg
          exact va_sld (A := xA0 P) (H0 := s0.heap) hx hb hE.2.2.2.2.2.1 hE.2.2.2.2.2.2.1 (Nat.not_le.mpr hE.2.2.2.2.2.2.2.1) hS (fun q => q.elim (fun q => by rw [Int32.lt_iff_toInt_lt] at q; rw [Int32.le_iff_toInt_le] at h0; omega) (fun q => absurd hn (Nat.not_lt.mpr q))) hd hg
        · cases hv
    · exact h.elim
  · rename_i x k st
    split at h
    · rename_i v hv
      unfold xbld at hv
      split at hv
      · rename_i hin
        cases hv
        rcases Bool.or_eq_true_iff.mp hin with hin | hin
        · obtain ⟨ht, hk, h0, hn⟩ := xin1_spec hin
          obtain ⟨cA, hA, -, hcell⟩ := xcel_arr (n := (xkM M k).2) hR hk (Prod.ext ht rfl) (by decide)
          rw [List.map_cons, List.map_cons, show xcv P (.ref k) = .ref (xPB P + xsg k) from xcr_own (xsg_lt hk hR.2.1)]
          exact W.bald (v := .int (M.1 k x.toNatClampNeg)) hx hb hcell (hA _ _) (fun q => by cases q) (by rw [arrV_size]; exact fun q => q.elim h0 (fun q => absurd hn (Nat.not_lt.mpr q))) (by rw [arrV_read _ _ hn]; rfl) rfl rfl hd (xgoW h H locs ls hR hS hl hc hs)
        · obtain ⟨ht, hk, h0, hn⟩ := xin1_spec hin
          obtain ⟨cA, hA, -, hcell⟩ := xcel_arr (n := (xkM M k).2) hR hk (Prod.ext ht rfl) (by decide)
          rw [List.map_cons, List.map_cons, show xcv P (.ref k) = .ref (xPB P + xsg k) from xcr_own (xsg_lt hk hR.2.1)]
          exact W.zald (v := .int (M.1 k x.toNatClampNeg)) hx hb hcell (hA _ _) (fun q => by cases q) (by rw [arrV_size]; exact fun q => q.elim h0 (fun q => absurd hn (Nat.not_lt.mpr q))) (by rw [arrV_read _ _ hn]; rfl) rfl rfl hd (xgoW h H locs ls hR hS hl hc hs)
      · split at hv
        · rename_i hq
          obtain ⟨j, hj, rfl⟩ : ∃ j : Nat, j < 4 ∧ k = 1010 + j := x1014 hq.1 (by first | exact hq.2.1 | exact hq.2)
          rw [show 1010 + j - 1010 = j by omega] at hv
          have hT := (hE.1.1 j hj).2.2.2
          rw [List.map_cons, List.map_cons, show xcv P (.ref (1010 + j)) = .ref (xPV P j) from xcr_sby (by omega)]
          have hlen : [5, 3, 4, 5].getD j 0 = (xstr j).length ∧ xSBy.getD j [] = xstr j := by
            rcases (show j = 0 ∨ j = 1 ∨ j = 2 ∨ j = 3 by omega) with rfl | rfl | rfl | rfl <;> exact ⟨rfl, rfl⟩
          rw [hlen.1, hlen.2] at hT
          have hn := (List.getElem?_eq_some_iff.mp hv).1
          exact va_tb hx hb hT hS (fun q => q.elim (fun q => by have h0 := hq.2.2; rw [Int32.lt_iff_toInt_lt] at q; rw [Int32.le_iff_toInt_le] at h0; omega) (fun q => absurd hn (Nat.not_lt.mpr q))) (v := .int v) (by show Value.int _ = _; rw [List.getD_eq_getElem?_getD, hv]; rfl) hd (xgoW h H locs ls hR hS hl hc hs)
        · cases hv
    · exact h.elim
  · rename_i x k st
    obtain ⟨hin, h⟩ := xifW h
    obtain ⟨ht, hk, h0, hn⟩ := xin1_spec hin
    obtain ⟨cA, hA, -, hcell⟩ := xcel_arr (n := (xkM M k).2) hR hk (Prod.ext ht rfl) (by decide)
    rw [List.map_cons, List.map_cons, show xcv P (.ref k) = .ref (xPB P + xsg k) from xcr_own (xsg_lt hk hR.2.1)]
    exact W.lald (v := .long (M.2.1 k x.toNatClampNeg)) hx hb hcell (hA _ _) (fun q => by cases q) (by rw [arrV_size]; exact fun q => q.elim h0 (fun q => absurd hn (Nat.not_lt.mpr q))) (by rw [arrV_read _ _ hn]; rfl) rfl rfl hd (xgoW h H locs ls hR hS hl hc hs)
  · rename_i x k st
    obtain ⟨hin, h⟩ := xifW h
    obtain ⟨ht, hk, h0, hn⟩ := xin1_spec hin
    obtain ⟨cA, hA, -, hcell⟩ := xcel_arr (n := (xkM M k).2) hR hk (Prod.ext ht rfl) (by decide)
    split at h
    · exact h.elim
    · rename_i r hr
      rw [List.map_cons, List.map_cons, show xcv P (.ref k) = .ref (xPB P + xsg k) from xcr_own (xsg_lt hk hR.2.1)]
      have hr9 : r < 1000 := by have := hR.2.2.2.2.2 k x.toNatClampNeg; omega
      have hg := xgoW h H locs ls hR hS hl hc hs
      rw [List.map_cons, show xcv P (.ref r) = .ref (xPB P + xsg r) from xcr_own hr9] at hg
      exact W.aald (v := .ref (xPB P + xsg r)) (ty := xty 5) hx hb hcell (hA _ _) rfl (fun q => by cases q) (by rw [arrV_size]; exact fun q => q.elim h0 (fun q => absurd hn (Nat.not_lt.mpr q))) (by rw [arrV_read _ _ hn]; show some (xrv P (M.2.2.1 k x.toNatClampNeg)) = _; rw [hr]; rfl) rfl rfl hd hg
  · rename_i v x k st
    obtain ⟨hin, h⟩ := xifW h
    obtain ⟨ht, hk, h0, hn⟩ := xin1_spec hin
    obtain ⟨cA, hA, hA2, hcell⟩ := xcel_arr (n := (xkM M k).2) hR hk (Prod.ext ht rfl) (by decide)
    rw [List.map_cons, List.map_cons, List.map_cons, show xcv P (.ref k) = .ref (xPB P + xsg k) from xcr_own (xsg_lt hk hR.2.1)]
    exact W.iast hx hb hcell (hA _ _) (fun q => by cases q) (by rw [arrV_size]; exact fun q => q.elim h0 (fun q => absurd hn (Nat.not_lt.mpr q))) rfl rfl hd fun H1 e z oq => xgoW h H1 _ ls (xrep_iast hR hk (Prod.ext ht rfl) (Or.inl rfl) hA hA2 e z oq) (xS_put hS z oq) hl hc hs
  · rename_i v x k st
    split at h
    · rename_i hin
      obtain ⟨ht, hk, h0, hn⟩ := xin1_spec hin
      obtain ⟨cA, hA, hA2, hcell⟩ := xcel_arr (n := (xkM M k).2) hR hk (Prod.ext ht rfl) (by decide)
      rw [List.map_cons, List.map_cons, List.map_cons, show xcv P (.ref k) = .ref (xPB P + xsg k) from xcr_own (xsg_lt hk hR.2.1)]
      exact W.bast hx hb hcell (hA _ _) (fun q => by cases q) (by rw [arrV_size]; exact fun q => q.elim h0 (fun q => absurd hn (Nat.not_lt.mpr q))) rfl rfl hd fun H1 e z oq => xgoW h H1 _ ls (xrep_iast hR hk (Prod.ext ht rfl) (Or.inr (Or.inl rfl)) hA hA2 e z oq) (xS_put hS z oq) hl hc hs
    · obtain ⟨⟨hin, hv⟩, h⟩ := xifW h
      obtain ⟨ht, hk, h0, hn⟩ := xin1_spec hin
      obtain ⟨cA, hA, hA2, hcell⟩ := xcel_arr (n := (xkM M k).2) hR hk (Prod.ext ht rfl) (by decide)
      rw [List.map_cons, List.map_cons, List.map_cons, show xcv P (.ref k) = .ref (xPB P + xsg k) from xcr_own (xsg_lt hk hR.2.1)]
      refine W.zast hx hb hcell (hA _ _) (fun q => by cases q) (by rw [arrV_size]; exact fun q => q.elim h0 (fun q => absurd hn (Nat.not_lt.mpr q))) rfl rfl hd fun H1 e z oq => xgoW h H1 _ ls (xrep_iast hR hk (Prod.ext ht rfl) (Or.inr (Or.inr rfl)) hA hA2 (by rw [e]; congr 2; rcases hv with rfl | rfl <;> rfl) z oq) (xS_put hS z oq) hl hc hs
  · rename_i v x k st
    obtain ⟨hin, h⟩ := xifW h
    obtain ⟨ht, hk, h0, hn⟩ := xin1_spec hin
    obtain ⟨cA, hA, hA2, hcell⟩ := xcel_arr (n := (xkM M k).2) hR hk (Prod.ext ht rfl) (by decide)
    rw [List.map_cons, List.map_cons, List.map_cons, show xcv P (.ref k) = .ref (xPB P + xsg k) from xcr_own (xsg_lt hk hR.2.1)]
    exact W.last hx hb hcell (hA _ _) (fun q => by cases q) (by rw [arrV_size]; exact fun q => q.elim h0 (fun q => absurd hn (Nat.not_lt.mpr q))) rfl rfl hd fun H1 e z oq => xgoW h H1 _ ls (xrep_last hR hk (Prod.ext ht rfl) hA hA2 e z oq) (xS_put hS z oq) hl hc hs
  · rename_i r x k st
    obtain ⟨⟨hin, hob, hr9⟩, h⟩ := xifW h
    obtain ⟨ht, hk, h0, hn⟩ := xin1_spec hin
    obtain ⟨hrk, hrK⟩ := xobj_spec hob
    obtain ⟨cA, hA, hA2, hcell⟩ := xcel_arr (n := (xkM M k).2) hR hk (Prod.ext ht rfl) (by decide)
    obtain ⟨cellV, g1, g2, g3, -⟩ := ((hR.2.2.1 r hrK 0 3 hrk).1 rfl).2
    have hcls := (hE.2.2.2.2.2.2.2.2.1.1 3 _ (xcls_at 3 (by decide))).2
    obtain ⟨kA, comp, k1, k2, k3, -⟩ := id hA2
    have hcomp : comp = (xPD P).1 3 := Option.some.inj (k3.symm.trans hcls.1)
    subst hcomp
    obtain ⟨kC, hkC, -⟩ := hcls.2
    rw [List.map_cons, List.map_cons, List.map_cons, show xcv P (.ref k) = .ref (xPB P + xsg k) from xcr_own (xsg_lt hk hR.2.1), show xcv P (.ref r) = .ref (xPB P + xsg r) from xcr_own hr9]
    exact W.aast hx hb hcell (fun q h => by cases h) (fun h => by cases h) k1 k2 rfl hkC ⟨h0, by rw [arrV_size]; exact hn⟩ g1 (fun q h => by rw [g3] at h; cases h) (by rw [g2]; exact hkC) (by rw [g2]; exact va_assign hcls) rfl rfl hd fun H1 e z oq => xgoW h H1 _ ls (xrep_aast hr9 hR hk (Prod.ext ht rfl) hA hA2 e z oq) (xS_put hS z oq) hl hc hs
  · rename_i k st
    split at h
    · rename_i v hv
      unfold xlen at hv
      split at hv
      · rename_i hq
        cases hv
        simp only [Bool.and_eq_true, Bool.not_eq_true', beq_eq_false_iff_ne] at hq
        have hk := Nat.le_of_ble_eq_true hq.1
        obtain ⟨cA, hA, -, hcell⟩ := xcel_arr (t := (xkM M k).1) (n := (xkM M k).2) hR hk rfl hq.2
        rw [List.map_cons, show xcv P (.ref k) = .ref (xPB P + xsg k) from xcr_own (xsg_lt hk hR.2.1)]
        exact W.alen hx hb hcell (hA _ _) (n := Int32.ofNat (xkM M k).2) (by rw [arrV_size]) rfl rfl hd (xgoW h H locs ls hR hS hl hc hs)
      · split at hv
        · rename_i hq
          cases hv
          subst hq
          rw [List.map_cons, show xcv P (.ref 1998) = .ref (xPs P) from xcr_scr]
          have hg := xgoW h H locs ls hR hS hl hc hs
          rw [hR.2.2.2.2.1] at hg
          exact va_slen (A := xA0 P) (H0 := s0.heap) hx hb hE.2.2.2.2.2.1 hE.2.2.2.2.2.2.1 (Nat.not_le.mpr hE.2.2.2.2.2.2.2.1) hS hd hg
        · split at hv
          · rename_i hq
            obtain ⟨j, hj, rfl⟩ : ∃ j : Nat, j < 4 ∧ k = 1010 + j := x1014 hq.1 (by first | exact hq.2.1 | exact hq.2)
            rw [show 1010 + j - 1010 = j by omega] at hv
            have hT := (hE.1.1 j hj).2.2.2
            rw [List.map_cons, show xcv P (.ref (1010 + j)) = .ref (xPV P j) from xcr_sby (by omega)]
            have hlen : [5, 3, 4, 5].getD j 0 = (xstr j).length := by
              rcases (show j = 0 ∨ j = 1 ∨ j = 2 ∨ j = 3 by omega) with rfl | rfl | rfl | rfl <;> rfl
            rw [hlen] at hT
            exact va_tlen hx hb hT hS (Option.some.inj hv) hd (xgoW h H locs ls hR hS hl hc hs)
          · cases hv
    · exact h.elim
  · exact lv_null hx hb hd (xgoW h H locs ls hR hS hl hc hs)
  · rename_i q k st
    split at h
    · rename_i v hv
      exact xs_get hx hb hts hown hE hR hS hv hd (xgoW h H locs ls hR hS hl hc hs)
    · exact h.elim
  · rename_i q v k st
    split at h
    · rename_i M' hv
      exact xs_put hx hb hts hown hE hini hR hS hv hd (fun H1 locs1 a b => xgoW h H1 locs1 ls a b hl hc hs)
    · exact h.elim
  · rename_i q
    split at h
    · rename_i a b d hv
      have hff := xff_all _ (xfl_in hv)
      split at h
      · rename_i h12
        exact va_gets hx hb hE.2.2.1 hS hown (hts _ (hff.2.2.2.1 h12)) (fun _ h => h) hd (xgoW h H locs ls hR hS hl hc hs)
      · obtain ⟨h13, h⟩ := xifW h
        have hg := xgoW h H locs ls hR hS hl hc hs
        rw [List.map_cons, show xcv P (.ref 1999) = xPf P by show xcr P 1999 = _; unfold xcr; rw [if_neg (by decide), if_neg (by decide), if_neg (by decide), if_pos rfl]] at hg
        exact va_gets hx hb hE.2.2.2.1 hS hown (hts _ (hff.2.2.2.2 h13)) (fun _ h => h) hd hg
    · exact h.elim
  · rename_i q
    split at h
    · rename_i ci hv
      obtain ⟨⟨hk, h1, h2⟩, h⟩ := xifW h
      exact xs_new hx hb hts hown hE hR hS hv hk (Nat.le_trans h1 hC1) (Nat.le_trans h2 hC2) hd (fun H1 locs1 a b => xgoW h H1 locs1 ls a b hl h1 h2)
    · exact h.elim
  · rename_i ty x st
    obtain ⟨⟨ht9, hk, h0, h1, h2, h3⟩, h⟩ := xifW h
    exact xs_newa hx hb hts hE hR hS ht9 hk h0 (Nat.le_trans h1 hC1) (Nat.le_trans h2 hC2) h3 hd (fun H1 locs1 a b => xgoW h H1 locs1 ls a b hl h1 h2)
  · rename_i q x st
    obtain ⟨⟨hv, hk, h0, h1, h2, h3⟩, h⟩ := xifW h
    exact xs_anew hx hb hts hown hE hR hS hv hk h0 (Nat.le_trans h1 hC1) (Nat.le_trans h2 hC2) h3 hd (fun H1 locs1 a b => xgoW h H1 locs1 ls a b hl h1 h2)
  · rename_i q
    split at h
    · rename_i hm
      exact xs_inv hC hd0 hn (k := 0) (Or.inl ⟨rfl, rfl, hm⟩) h H locs ls hR hS hl hc hs
    · rename_i y x st hm
      obtain ⟨hr, h⟩ := xifN h
      obtain ⟨w1, w2, w3, w4⟩ := xmaxW hm
      exact va_mmax hx hb (hml.trans hl.1.symm) hown (hts _ w1) (hts _ w2) (hts _ w3) (hts _ w4) (by omega) (by rw [xcv_cats hf]; omega) (Nat.le_trans hc hC1) (Nat.le_trans hs hC2) hd (xgoW h H locs ls hR hS hl hc hs)
    · rename_i y x st hm
      obtain ⟨hr, h⟩ := xifN h
      obtain ⟨w1, w2, w3, w4⟩ := xminW hm
      exact va_mmin hx hb (hml.trans hl.1.symm) hown (hts _ w1) (hts _ w2) (hts _ w3) (hts _ w4) (by omega) (by rw [xcv_cats hf]; omega) (Nat.le_trans hc hC1) (Nat.le_trans hs hC2) hd (xgoW h H locs ls hR hS hl hc hs)
    · exact h.elim
  · exact xs_inv hC hd0 hn (k := 1) (Or.inr (Or.inl ⟨rfl, rfl⟩)) h H locs ls hR hS hl hc hs
  · rename_i q
    split at h
    · rename_i ho
      split at h
      · rename_i k st
        obtain ⟨hq, h⟩ := xifN h
        obtain ⟨y, hy⟩ := xcr_ref (P := P) (k := k) (fun z => hq (Or.inl z))
        rw [List.map_cons, show xcv P (.ref k) = .ref y from hy]
        refine W.objInit hx hb hown (hts _ (xoi_in ho)) (hts _ xoi_inst) (hts _ xoi_code) rfl (by rw [hml]; exact hl.1) rfl hd (by omega) (by rw [xcv_cats hf]; show 2 * 0 + _ + 12 ≤ _; omega) ?_
        exact xgoW h H locs ls hR hS hl hc hs
      · exact h.elim
    · exact xs_inv hC hd0 hn (k := 2) (Or.inr (Or.inr ⟨rfl, rfl⟩)) h H locs ls hR hS hl hc hs
  · obtain ⟨⟨h1, h2, h3⟩, h⟩ := xifW h
    exact h pc _ H locs ls c s hd (Or.inl ⟨rfl, _, rfl, h1⟩) hR hS h2 h3
  · obtain ⟨⟨h1, h2, h3⟩, h⟩ := xifW h
    exact h pc _ H locs ls c s hd (Or.inr (Or.inl ⟨rfl, _, rfl, h1⟩)) hR hS h2 h3
  · obtain ⟨⟨h1, h9, h2, h3⟩, h⟩ := xifW h
    exact h pc _ H locs ls c s hd (Or.inr (Or.inr (Or.inl ⟨rfl, h1, Or.inl ⟨_, rfl, h9⟩⟩))) hR hS h2 h3
  · obtain ⟨⟨h1, h2, h3⟩, h⟩ := xifW h
    exact h pc _ H locs ls c s hd (Or.inr (Or.inr (Or.inl ⟨rfl, Or.inl h1, Or.inr rfl⟩))) hR hS h2 h3
  · obtain ⟨⟨h1, h2, h3⟩, h⟩ := xifW h
    exact h pc _ H locs ls c s hd (Or.inr (Or.inr (Or.inr ⟨rfl, rfl, h1⟩))) hR hS h2 h3
  · exact h.elim
end
