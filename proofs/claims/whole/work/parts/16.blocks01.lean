set_option maxRecDepth 4000 in
theorem fX3_hasPost_i (v0 : Nat) (v1 : Int32) (m : xmm) {z : Int32 × xmm} (h : (if v1 < 0 then some ((0 : Int32), m) else xgd (!(Nat.beq v0 1999)) (xgd (xob v0 3) (if (m.1 v0 0) ≤ v1 then some ((0 : Int32), m) else if (8 : Int32) ≤ v1 then some ((0 : Int32), m) else some ((1 : Int32), m)))) = some z) : fX3_hasPost v0 v1 m = some z := by
  refine xstI ?_
  show xT 24 0 0 [(0, .ref v0), (1, .int v1)] [] m (some (.int z.1), z.2)
  refine e_iload_n rfl rfl (xnm_no rfl) ?_
  refine e_if_lt (t := 22) rfl rfl (xnm_no rfl) (xnm_no rfl) h (fun h => ?_) (fun h => ?_)
  · refine e_iconst (x := 0) rfl (by decide) (xnm_no rfl) ?_
    cases h
    exact e_retI rfl (by decide)
  · refine e_iload_n rfl rfl (xnm_no rfl) ?_
    obtain ⟨g1, h⟩ := xgd_some h
    refine e_aload_n rfl rfl (xnb g1) (xnm_no rfl) ?_
    obtain ⟨g2, h⟩ := xgd_some h
    refine e_getI rfl rfl rfl g2 (xnm_no rfl) ?_
    refine e_icmp_ge (t := 22) rfl rfl (xnm_no rfl) (xnm_no rfl) h (fun h => ?_) (fun h => ?_)
    · refine e_iconst (x := 0) rfl (by decide) (xnm_no rfl) ?_
      cases h
      exact e_retI rfl (by decide)
    · refine e_iload_n rfl rfl (xnm_no rfl) ?_
      refine e_bipush (x := 8) rfl (by decide) (xnm_no rfl) ?_
      refine e_icmp_ge (t := 22) rfl rfl (xnm_no rfl) (xnm_no rfl) h (fun h => ?_) (fun h => ?_)
      · refine e_iconst (x := 0) rfl (by decide) (xnm_no rfl) ?_
        cases h
        exact e_retI rfl (by decide)
      · refine e_iconst (x := 1) rfl (by decide) (xnm_no rfl) ?_
        refine e_goto (t := 23) rfl rfl (xnm_no rfl) ?_
        cases h
        exact e_retI rfl (by decide)
set_option maxRecDepth 4000 in
theorem fX7_postNamed_1_i (v1 : Int64) (m : xmm) {z : Int32 × xmm} (h : (bX7_postNamed_1_2 v1 (0 : Int32) m) = some z) : fX7_postNamed_1 v1 m = some z := by
  refine xstI ?_
  show xT 88 1 0 [(0, .ref 1), (1, .long v1)] [] m (some (.int z.1), z.2)
  refine e_iconst (x := 0) rfl (by decide) (xnm_no rfl) ?_
  refine e_istore_n rfl rfl rfl ?_
  exact xlfI h
set_option maxRecDepth 4000 in
theorem bX7_postNamed_1_2_i (v1 : Int64) (v3 : Int32) (m : xmm) {z : Int32 × xmm} (h : (if (m.1 3 0) ≤ v3 then some ((-1 : Int32), m) else (fX3_hasPost 3 v3 m).bind fun (w1 : Int32 × xmm) => if w1.1 = 0 then bX7_postNamed_1_2 v1 (v3 + (1 : Int32)) w1.2 else xgd (xinb 8 v3) (if (lg_cmp (w1.2.2 8 (v3).toNatClampNeg) v1) = 0 then some (v3, w1.2) else bX7_postNamed_1_2 v1 (v3 + (1 : Int32)) w1.2)) = some z) : bX7_postNamed_1_2 v1 v3 m = some z := by
  refine xstI ?_
  show xT 88 1 2 [(0, .ref 1), (1, .long v1), (3, .int v3)] [] m (some (.int z.1), z.2)
  refine e_iload_n rfl rfl (xnm_no rfl) ?_
  refine e_aload_n rfl rfl rfl (xnm_no rfl) ?_
  refine e_getR (r := 3) rfl rfl rfl rfl rfl (xnm_no rfl) ?_
  refine e_getI rfl rfl rfl rfl (xnm_no rfl) ?_
  refine e_icmp_ge (t := 43) rfl rfl (xnm_no rfl) (xnm_no rfl) h (fun h => ?_) (fun h => ?_)
  · refine e_iconst (x := -1) rfl (by decide) (xnm_no rfl) ?_
    cases h
    exact e_retI rfl rfl
  · refine e_aload_n rfl rfl rfl (xnm_no rfl) ?_
    refine e_getR (r := 3) rfl rfl rfl rfl rfl (xnm_no rfl) ?_
    refine e_iload_n rfl rfl (xnm_no rfl) ?_
    obtain ⟨w1, hw2, h⟩ := xbd_some h
    refine e_cIV (hc := hw2) (rest := []) rfl rfl rfl rfl rfl rfl rfl rfl (xnm_no rfl) ?_
    refine e_if_eq (t := 37) rfl rfl (xnm_no rfl) (xnm_no rfl) h (fun h => ?_) (fun h => ?_)
    · refine e_iinc (y := 1) rfl rfl rfl (by decide) (xnm_no rfl) ?_
      refine e_goto (t := 2) rfl rfl rfl ?_
      exact xlfI h
    · refine e_aload_n rfl rfl rfl (xnm_no rfl) ?_
      refine e_getR (r := 8) rfl rfl rfl rfl rfl (xnm_no rfl) ?_
      refine e_iload_n rfl rfl (xnm_no rfl) ?_
      obtain ⟨g3, h⟩ := xgd_some h
      refine e_lald rfl g3 (xnm_no rfl) ?_
      refine e_lload_n rfl rfl (xnm_no rfl) ?_
      refine e_lcmp rfl (xnm_no rfl) ?_
      refine e_if_ne (t := 37) rfl rfl (xnm_no rfl) (xnm_no rfl) h (fun h => ?_) (fun h => ?_)
      · refine e_iinc (y := 1) rfl rfl rfl (by decide) (xnm_no rfl) ?_
        refine e_goto (t := 2) rfl rfl rfl ?_
        exact xlfI h
      · refine e_iload_n rfl rfl (xnm_no rfl) ?_
        cases h
        exact e_retI rfl rfl
set_option maxRecDepth 4000 in
theorem fX11_contains_i (v0 : Int32) (v1 : Int32) (m : xmm) {z : Int32 × xmm} (h : (if ((v0 >>> (v1 &&& 31)) &&& (1 : Int32)) = (1 : Int32) then some ((1 : Int32), m) else some ((0 : Int32), m)) = some z) : fX11_contains v0 v1 m = some z := by
  refine xstI ?_
  show xT 147 0 0 [(0, .int v0), (1, .int v1)] [] m (some (.int z.1), z.2)
  refine e_iload_n rfl rfl (xnm_no rfl) ?_
  refine e_iload_n rfl rfl (xnm_no rfl) ?_
  refine e_ishr rfl (xnm_no rfl) ?_
  refine e_iconst (x := 1) rfl (by decide) (xnm_no rfl) ?_
  refine e_iand rfl (xnm_no rfl) ?_
  refine e_iconst (x := 1) rfl (by decide) (xnm_no rfl) ?_
  refine e_icmp_ne (t := 13) rfl rfl (xnm_no rfl) (xnm_no rfl) h (fun h => ?_) (fun h => ?_)
  · refine e_iconst (x := 0) rfl (by decide) (xnm_no rfl) ?_
    cases h
    exact e_retI rfl (by decide)
  · refine e_iconst (x := 1) rfl (by decide) (xnm_no rfl) ?_
    refine e_goto (t := 14) rfl rfl (xnm_no rfl) ?_
    cases h
    exact e_retI rfl (by decide)
set_option maxRecDepth 4000 in
theorem fX3_hasPair_i (v0 : Nat) (v1 : Int32) (v2 : Int32) (m : xmm) {z : Int32 × xmm} (h : (if v1 = v2 then some ((0 : Int32), m) else xgd (!(Nat.beq v0 1999)) ((fX3_hasPost v0 v1 m).bind fun (w2 : Int32 × xmm) => xgd (xob v0 3) (if w2.1 = 0 then some ((0 : Int32), w2.2) else (fX3_hasPost v0 v2 w2.2).bind fun (w5 : Int32 × xmm) => if w5.1 = 0 then some ((0 : Int32), w5.2) else some ((1 : Int32), w5.2)))) = some z) : fX3_hasPair v0 v1 v2 m = some z := by
  refine xstI ?_
  show xT 25 1 0 [(0, .ref v0), (1, .int v1), (2, .int v2)] [] m (some (.int z.1), z.2)
  refine e_iload_n rfl rfl (xnm_no rfl) ?_
  refine e_iload_n rfl rfl (xnm_no rfl) ?_
  refine e_icmp_eq (t := 25) rfl rfl (xnm_no rfl) (xnm_no rfl) h (fun h => ?_) (fun h => ?_)
  · refine e_iconst (x := 0) rfl (by decide) (xnm_no rfl) ?_
    cases h
    exact e_retI rfl (by decide)
  · obtain ⟨g1, h⟩ := xgd_some h
    refine e_aload_n rfl rfl (xnb g1) (xnm_no rfl) ?_
    refine e_iload_n rfl rfl (xnm_no rfl) ?_
    obtain ⟨w2, hw3, h⟩ := xbd_some h
    obtain ⟨g4, h⟩ := xgd_some h
    refine e_cIV (hc := hw3) (rest := []) rfl rfl rfl rfl rfl (xorb g4) rfl rfl (xnm_no rfl) ?_
    refine e_if_eq (t := 25) rfl rfl (xnm_no rfl) (xnm_no rfl) h (fun h => ?_) (fun h => ?_)
    · refine e_iconst (x := 0) rfl (by decide) (xnm_no rfl) ?_
      cases h
      exact e_retI rfl (by decide)
    · refine e_aload_n rfl rfl (xnb g1) (xnm_no rfl) ?_
      refine e_iload_n rfl rfl (xnm_no rfl) ?_
      obtain ⟨w5, hw6, h⟩ := xbd_some h
      refine e_cIV (hc := hw6) (rest := []) rfl rfl rfl rfl rfl (xorb g4) rfl rfl (xnm_no rfl) ?_
      refine e_if_eq (t := 25) rfl rfl (xnm_no rfl) (xnm_no rfl) h (fun h => ?_) (fun h => ?_)
      · refine e_iconst (x := 0) rfl (by decide) (xnm_no rfl) ?_
        cases h
        exact e_retI rfl (by decide)
      · refine e_iconst (x := 1) rfl (by decide) (xnm_no rfl) ?_
        refine e_goto (t := 26) rfl rfl (xnm_no rfl) ?_
        cases h
        exact e_retI rfl (by decide)
set_option maxRecDepth 4000 in
theorem fX3_join_i (v0 : Nat) (v1 : Int32) (v2 : Int32) (m : xmm) {z : xmm} (h : (xgd (!(Nat.beq v0 1999)) ((fX3_hasPair v0 v1 v2 m).bind fun (w2 : Int32 × xmm) => xgd (xob v0 3) (if w2.1 = 0 then some w2.2 else xgr (xR0 v0 2) fun r5 => xgd (xia 1 r5 v1) (xlt (xwi w2.2 r5 (v1).toNatClampNeg ((w2.2.1 r5 (v1).toNatClampNeg) ||| ((1 : Int32) <<< (v2 &&& 31)))) fun (m8 : xmm) => xgd (xia 1 r5 v2) (xlt (xwi m8 r5 (v2).toNatClampNeg ((m8.1 r5 (v2).toNatClampNeg) ||| ((1 : Int32) <<< (v1 &&& 31)))) fun (m10 : xmm) => some m10))))) = some z) : fX3_join v0 v1 v2 m = some z := by
  refine xstV ?_
  show xT 33 2 0 [(0, .ref v0), (1, .int v1), (2, .int v2)] [] m (none, z)
  obtain ⟨g1, h⟩ := xgd_some h
  refine e_aload_n rfl rfl (xnb g1) (xnm_no rfl) ?_
  refine e_iload_n rfl rfl (xnm_no rfl) ?_
  refine e_iload_n rfl rfl (xnm_no rfl) ?_
  obtain ⟨w2, hw3, h⟩ := xbd_some h
  obtain ⟨g4, h⟩ := xgd_some h
  refine e_cIV (hc := hw3) (rest := []) rfl rfl rfl rfl rfl (xorb g4) rfl rfl (xnm_no rfl) ?_
  refine e_if_eq (t := 33) rfl rfl (xnm_no rfl) (xnm_no rfl) h (fun h => ?_) (fun h => ?_)
  · cases h
    exact e_retV rfl rfl
  · refine e_aload_n rfl rfl (xnb g1) (xnm_no rfl) ?_
    obtain ⟨r5, hr6, h⟩ := xgr_some h
    refine e_getR rfl rfl rfl g4 hr6 (xnm_no rfl) ?_
    refine e_iload_n rfl rfl (xnm_no rfl) ?_
    refine e_dup2 rfl rfl rfl (xnm_no rfl) ?_
    obtain ⟨g7, h⟩ := xgd_some h
    refine e_iald rfl g7 (xnm_no rfl) ?_
    refine e_iconst (x := 1) rfl (by decide) (xnm_no rfl) ?_
    refine e_iload_n rfl rfl (xnm_no rfl) ?_
    refine e_ishl rfl (xnm_no rfl) ?_
    refine e_ior rfl (xnm_no rfl) ?_
    refine e_iast rfl g7 (xnm_no rfl) ?_
    replace h := xlt_b h
    refine e_aload_n rfl rfl (xnb g1) (xnm_no rfl) ?_
    refine e_getR rfl rfl rfl g4 hr6 (xnm_no rfl) ?_
    refine e_iload_n rfl rfl (xnm_no rfl) ?_
    refine e_dup2 rfl rfl rfl (xnm_no rfl) ?_
    obtain ⟨g9, h⟩ := xgd_some h
    refine e_iald rfl g9 (xnm_no rfl) ?_
    refine e_iconst (x := 1) rfl (by decide) (xnm_no rfl) ?_
    refine e_iload_n rfl rfl (xnm_no rfl) ?_
    refine e_ishl rfl (xnm_no rfl) ?_
    refine e_ior rfl (xnm_no rfl) ?_
    refine e_iast rfl g9 (xnm_no rfl) ?_
    replace h := xlt_b h
    cases h
    exact e_retV rfl rfl
set_option maxRecDepth 4000 in
theorem fX7_tellEnd_1_i (v1 : Int64) (v2 : Int32) (m : xmm) {z : xmm} (h : ((fX7_postNamed_1 v1 m).bind fun (w1 : Int32 × xmm) => if w1.1 = (-1 : Int32) then (fX7_refuse_1 (4 : Int32) v2 w1.2).bind fun (w3 : xmm) => some w3 else bX7_tellEnd_1_23 w1.1 (0 : Int32) w1.2) = some z) : fX7_tellEnd_1 v1 v2 m = some z := by
  refine xstV ?_
  show xT 90 3 0 [(0, .ref 1), (1, .long v1), (3, .int v2)] [] m (none, z)
  refine e_aload_n rfl rfl rfl (xnm_no rfl) ?_
  refine e_lload_n rfl rfl (xnm_no rfl) ?_
  obtain ⟨w1, hw2, h⟩ := xbd_some h
  refine e_cIV (hc := hw2) (rest := []) rfl rfl rfl rfl rfl rfl rfl rfl (xnm_no rfl) ?_
  refine e_istore rfl rfl (xnm_no rfl) ?_
  refine e_iload rfl rfl (xnm_no rfl) ?_
  refine e_iconst (x := -1) rfl (by decide) (xnm_no rfl) ?_
  refine e_icmp_ne (t := 20) rfl rfl (xnm_no rfl) (xnm_no rfl) h (fun h => ?_) (fun h => ?_)
  · refine e_iconst (x := 0) rfl (by decide) (xnm_no rfl) ?_
    refine e_istore rfl rfl rfl ?_
    exact xlfV h
  · refine e_aload_n rfl rfl rfl (xnm_no rfl) ?_
    refine e_iconst (x := 4) rfl (by decide) (xnm_no rfl) ?_
    refine e_iload_n rfl rfl (xnm_no rfl) ?_
    obtain ⟨w3, hw4, h⟩ := xbd_some h
    refine e_cVV (hc := hw4) (rest := []) rfl rfl rfl rfl rfl rfl rfl rfl (xnm_no rfl) ?_
    cases h
    exact e_retV rfl rfl
set_option maxRecDepth 4000 in
theorem bX7_tellEnd_1_23_i (v4 : Int32) (v5 : Int32) (m : xmm) {z : xmm} (h : (if (m.1 3 0) ≤ v5 then if (m.1 1 12) = (6 : Int32) then xlt (xwi m 1 13 ((m.1 1 13) ||| ((1 : Int32) <<< (v4 &&& 31)))) fun (m2 : xmm) => some m2 else xlt (xwi m 1 13 ((1 : Int32) <<< (v4 &&& 31))) fun (m1 : xmm) => some m1 else (fX11_contains (m.1 1 13) v5 m).bind fun (w3 : Int32 × xmm) => if w3.1 = 0 then bX7_tellEnd_1_23 v4 (v5 + (1 : Int32)) w3.2 else (fX3_join 3 v5 v4 w3.2).bind fun (w5 : xmm) => bX7_tellEnd_1_23 v4 (v5 + (1 : Int32)) w5) = some z) : bX7_tellEnd_1_23 v4 v5 m = some z := by
  refine xstV ?_
  show xT 90 3 23 [(0, .ref 1), (4, .int v4), (5, .int v5)] [] m (none, z)
  refine e_iload rfl rfl (xnm_no rfl) ?_
  refine e_aload_n rfl rfl rfl (xnm_no rfl) ?_
  refine e_getR (r := 3) rfl rfl rfl rfl rfl (xnm_no rfl) ?_
  refine e_getI rfl rfl rfl rfl (xnm_no rfl) ?_
  refine e_icmp_ge (t := 64) rfl rfl (xnm_no rfl) (xnm_no rfl) h (fun h => ?_) (fun h => ?_)
  · refine e_aload_n rfl rfl rfl (xnm_no rfl) ?_
    refine e_aload_n rfl rfl rfl (xnm_no rfl) ?_
    refine e_getI rfl rfl rfl rfl (xnm_no rfl) ?_
    refine e_bipush (x := 6) rfl (by decide) (xnm_no rfl) ?_
    refine e_icmp_ne (t := 86) rfl rfl (xnm_no rfl) (xnm_no rfl) h (fun h => ?_) (fun h => ?_)
    · refine e_iconst (x := 1) rfl (by decide) (xnm_no rfl) ?_
      refine e_iload rfl rfl (xnm_no rfl) ?_
      refine e_ishl rfl (xnm_no rfl) ?_
      refine e_putI rfl rfl rfl rfl (xnm_no rfl) ?_
      replace h := xlt_b h
      cases h
      exact e_retV rfl rfl
    · refine e_aload_n rfl rfl rfl (xnm_no rfl) ?_
      refine e_getI rfl rfl rfl rfl (xnm_no rfl) ?_
      refine e_iconst (x := 1) rfl (by decide) (xnm_no rfl) ?_
      refine e_iload rfl rfl (xnm_no rfl) ?_
      refine e_ishl rfl (xnm_no rfl) ?_
      refine e_ior rfl (xnm_no rfl) ?_
      refine e_goto (t := 90) rfl rfl (xnm_no rfl) ?_
      refine e_putI rfl rfl rfl rfl (xnm_no rfl) ?_
      replace h := xlt_b h
      cases h
      exact e_retV rfl rfl
  · refine e_aload_n rfl rfl rfl (xnm_no rfl) ?_
    refine e_getI rfl rfl rfl rfl (xnm_no rfl) ?_
    refine e_iload rfl rfl (xnm_no rfl) ?_
    obtain ⟨w3, hw4, h⟩ := xbd_some h
    refine e_cIS (hc := hw4) (rest := []) rfl rfl rfl rfl rfl rfl rfl rfl (xnm_no rfl) ?_
    refine e_if_eq (t := 58) rfl rfl (xnm_no rfl) (xnm_no rfl) h (fun h => ?_) (fun h => ?_)
    · refine e_iinc (y := 1) rfl rfl rfl (by decide) (xnm_no rfl) ?_
      refine e_goto (t := 23) rfl rfl rfl ?_
      exact xlfV h
    · refine e_aload_n rfl rfl rfl (xnm_no rfl) ?_
      refine e_getR (r := 3) rfl rfl rfl rfl rfl (xnm_no rfl) ?_
      refine e_iload rfl rfl (xnm_no rfl) ?_
      refine e_iload rfl rfl (xnm_no rfl) ?_
      obtain ⟨w5, hw6, h⟩ := xbd_some h
      refine e_cVV (hc := hw6) (rest := []) rfl rfl rfl rfl rfl rfl rfl rfl (xnm_no rfl) ?_
      refine e_iinc (y := 1) rfl rfl rfl (by decide) (xnm_no rfl) ?_
      refine e_goto (t := 23) rfl rfl rfl ?_
      exact xlfV h
set_option maxRecDepth 4000 in
theorem fX7_tellPost_1_i (v1 : Int64) (v2 : Int32) (m : xmm) {z : xmm} (h : ((fX7_postNamed_1 v1 m).bind fun (w1 : Int32 × xmm) => if w1.1 = (-1 : Int32) then if (8 : Int32) ≤ (w1.2.1 3 0) then some w1.2 else xgd (xinb 8 (w1.2.1 3 0)) (xlt (xwj w1.2 8 ((w1.2.1 3 0)).toNatClampNeg v1) fun (m4 : xmm) => xlt (xwi m4 3 0 ((m4.1 3 0) + (1 : Int32))) fun (m5 : xmm) => some m5) else (fX7_refuse_1 (3 : Int32) v2 w1.2).bind fun (w6 : xmm) => some w6) = some z) : fX7_tellPost_1 v1 v2 m = some z := by
  refine xstV ?_
  show xT 89 2 0 [(0, .ref 1), (1, .long v1), (3, .int v2)] [] m (none, z)
  refine e_aload_n rfl rfl rfl (xnm_no rfl) ?_
  refine e_lload_n rfl rfl (xnm_no rfl) ?_
  obtain ⟨w1, hw2, h⟩ := xbd_some h
  refine e_cIV (hc := hw2) (rest := []) rfl rfl rfl rfl rfl rfl rfl rfl (xnm_no rfl) ?_
  refine e_iconst (x := -1) rfl (by decide) (xnm_no rfl) ?_
  refine e_icmp_eq (t := 18) rfl rfl (xnm_no rfl) (xnm_no rfl) h (fun h => ?_) (fun h => ?_)
  · refine e_aload_n rfl rfl rfl (xnm_no rfl) ?_
    refine e_getR (r := 3) rfl rfl rfl rfl rfl (xnm_no rfl) ?_
    refine e_getI rfl rfl rfl rfl (xnm_no rfl) ?_
    refine e_bipush (x := 8) rfl (by decide) (xnm_no rfl) ?_
    refine e_icmp_ge (t := 56) rfl rfl (xnm_no rfl) (xnm_no rfl) h (fun h => ?_) (fun h => ?_)
    · cases h
      exact e_retV rfl rfl
    · refine e_aload_n rfl rfl rfl (xnm_no rfl) ?_
      refine e_getR (r := 8) rfl rfl rfl rfl rfl (xnm_no rfl) ?_
      refine e_aload_n rfl rfl rfl (xnm_no rfl) ?_
      refine e_getR (r := 3) rfl rfl rfl rfl rfl (xnm_no rfl) ?_
      refine e_getI rfl rfl rfl rfl (xnm_no rfl) ?_
      refine e_lload_n rfl rfl (xnm_no rfl) ?_
      obtain ⟨g3, h⟩ := xgd_some h
      refine e_last rfl g3 (xnm_no rfl) ?_
      replace h := xlt_b h
      refine e_aload_n rfl rfl rfl (xnm_no rfl) ?_
      refine e_getR (r := 3) rfl rfl rfl rfl rfl (xnm_no rfl) ?_
      refine e_dup rfl rfl (xnm_no rfl) ?_
      refine e_getI rfl rfl rfl rfl (xnm_no rfl) ?_
      refine e_iconst (x := 1) rfl (by decide) (xnm_no rfl) ?_
      refine e_iadd rfl (xnm_no rfl) ?_
      refine e_putI rfl rfl rfl rfl (xnm_no rfl) ?_
      replace h := xlt_b h
      cases h
      exact e_retV rfl rfl
  · refine e_aload_n rfl rfl rfl (xnm_no rfl) ?_
    refine e_iconst (x := 3) rfl (by decide) (xnm_no rfl) ?_
    refine e_iload_n rfl rfl (xnm_no rfl) ?_
    obtain ⟨w6, hw7, h⟩ := xbd_some h
    refine e_cVV (hc := hw7) (rest := []) rfl rfl rfl rfl rfl rfl rfl rfl (xnm_no rfl) ?_
    refine e_goto (t := 56) rfl rfl (xnm_no rfl) ?_
    cases h
    exact e_retV rfl rfl
set_option maxRecDepth 4000 in
theorem fX7_tellPlace_1_i (v1 : Int32) (v2 : Int32) (m : xmm) {z : xmm} (h : (if v1 < 0 then (fX7_refuse_1 (5 : Int32) v2 m).bind fun (w1 : xmm) => some w1 else if v1 < (m.1 3 0) then (fX11_contains (m.1 1 13) v1 m).bind fun (w3 : Int32 × xmm) => if w3.1 = 0 then if (w3.2.1 1 14) < (8 : Int32) then bX7_tellPlace_1_52 v1 (0 : Int32) w3.2 else some w3.2 else (fX7_refuse_1 (3 : Int32) v2 w3.2).bind fun (w5 : xmm) => some w5 else (fX7_refuse_1 (5 : Int32) v2 m).bind fun (w7 : xmm) => some w7) = some z) : fX7_tellPlace_1 v1 v2 m = some z := by
  refine xstV ?_
  show xT 91 3 0 [(0, .ref 1), (1, .int v1), (2, .int v2)] [] m (none, z)
  refine e_iload_n rfl rfl (xnm_no rfl) ?_
  refine e_if_lt (t := 15) rfl rfl (xnm_no rfl) (xnm_no rfl) h (fun h => ?_) (fun h => ?_)
  · refine e_aload_n rfl rfl rfl (xnm_no rfl) ?_
    refine e_iconst (x := 5) rfl (by decide) (xnm_no rfl) ?_
    refine e_iload_n rfl rfl (xnm_no rfl) ?_
    obtain ⟨w1, hw2, h⟩ := xbd_some h
    refine e_cVV (hc := hw2) (rest := []) rfl rfl rfl rfl rfl rfl rfl rfl (xnm_no rfl) ?_
    cases h
    exact e_retV rfl rfl
  · refine e_iload_n rfl rfl (xnm_no rfl) ?_
    refine e_aload_n rfl rfl rfl (xnm_no rfl) ?_
    refine e_getR (r := 3) rfl rfl rfl rfl rfl (xnm_no rfl) ?_
    refine e_getI rfl rfl rfl rfl (xnm_no rfl) ?_
    refine e_icmp_lt (t := 22) rfl rfl (xnm_no rfl) (xnm_no rfl) h (fun h => ?_) (fun h => ?_)
    · refine e_aload_n rfl rfl rfl (xnm_no rfl) ?_
      refine e_getI rfl rfl rfl rfl (xnm_no rfl) ?_
      refine e_iload_n rfl rfl (xnm_no rfl) ?_
      obtain ⟨w3, hw4, h⟩ := xbd_some h
      refine e_cIS (hc := hw4) (rest := []) rfl rfl rfl rfl rfl rfl rfl rfl (xnm_no rfl) ?_
      refine e_if_eq (t := 40) rfl rfl (xnm_no rfl) (xnm_no rfl) h (fun h => ?_) (fun h => ?_)
      · refine e_aload_n rfl rfl rfl (xnm_no rfl) ?_
        refine e_getI rfl rfl rfl rfl (xnm_no rfl) ?_
        refine e_bipush (x := 8) rfl (by decide) (xnm_no rfl) ?_
        refine e_icmp_lt (t := 50) rfl rfl (xnm_no rfl) (xnm_no rfl) h (fun h => ?_) (fun h => ?_)
        · refine e_iconst (x := 0) rfl (by decide) (xnm_no rfl) ?_
          refine e_istore_n rfl rfl rfl ?_
          exact xlfV h
        · cases h
          exact e_retV rfl rfl
      · refine e_aload_n rfl rfl rfl (xnm_no rfl) ?_
        refine e_iconst (x := 3) rfl (by decide) (xnm_no rfl) ?_
        refine e_iload_n rfl rfl (xnm_no rfl) ?_
        obtain ⟨w5, hw6, h⟩ := xbd_some h
        refine e_cVV (hc := hw6) (rest := []) rfl rfl rfl rfl rfl rfl rfl rfl (xnm_no rfl) ?_
        cases h
        exact e_retV rfl rfl
    · refine e_aload_n rfl rfl rfl (xnm_no rfl) ?_
      refine e_iconst (x := 5) rfl (by decide) (xnm_no rfl) ?_
      refine e_iload_n rfl rfl (xnm_no rfl) ?_
      obtain ⟨w7, hw8, h⟩ := xbd_some h
      refine e_cVV (hc := hw8) (rest := []) rfl rfl rfl rfl rfl rfl rfl rfl (xnm_no rfl) ?_
      cases h
      exact e_retV rfl rfl
set_option maxRecDepth 4000 in
theorem bX7_tellPlace_1_52_i (v1 : Int32) (v3 : Int32) (m : xmm) {z : xmm} (h : (if (m.1 1 14) ≤ v3 then xgd (xinb 8 (m.1 1 14)) (xlt (xwi m 9 ((m.1 1 14)).toNatClampNeg v1) fun (m2 : xmm) => xlt (xwi m2 1 14 ((m2.1 1 14) + (1 : Int32))) fun (m3 : xmm) => xlt (xwi m3 1 13 ((m3.1 1 13) ||| ((1 : Int32) <<< (v1 &&& 31)))) fun (m4 : xmm) => some m4) else xgd (xinb 8 v3) (if (m.1 9 (v3).toNatClampNeg) ≤ v1 then bX7_tellPlace_1_52 v1 (v3 + (1 : Int32)) m else (fX3_join 3 v3 (m.1 1 14) m).bind fun (w6 : xmm) => bX7_tellPlace_1_52 v1 (v3 + (1 : Int32)) w6)) = some z) : bX7_tellPlace_1_52 v1 v3 m = some z := by
  refine xstV ?_
  show xT 91 3 52 [(0, .ref 1), (1, .int v1), (3, .int v3)] [] m (none, z)
  refine e_iload_n rfl rfl (xnm_no rfl) ?_
  refine e_aload_n rfl rfl rfl (xnm_no rfl) ?_
  refine e_getI rfl rfl rfl rfl (xnm_no rfl) ?_
  refine e_icmp_ge (t := 88) rfl rfl (xnm_no rfl) (xnm_no rfl) h (fun h => ?_) (fun h => ?_)
  · refine e_aload_n rfl rfl rfl (xnm_no rfl) ?_
    refine e_getR (r := 9) rfl rfl rfl rfl rfl (xnm_no rfl) ?_
    refine e_aload_n rfl rfl rfl (xnm_no rfl) ?_
    refine e_getI rfl rfl rfl rfl (xnm_no rfl) ?_
    refine e_iload_n rfl rfl (xnm_no rfl) ?_
    obtain ⟨g1, h⟩ := xgd_some h
    refine e_iast rfl g1 (xnm_no rfl) ?_
    replace h := xlt_b h
    refine e_aload_n rfl rfl rfl (xnm_no rfl) ?_
    refine e_dup rfl rfl (xnm_no rfl) ?_
    refine e_getI rfl rfl rfl rfl (xnm_no rfl) ?_
    refine e_iconst (x := 1) rfl (by decide) (xnm_no rfl) ?_
    refine e_iadd rfl (xnm_no rfl) ?_
    refine e_putI rfl rfl rfl rfl (xnm_no rfl) ?_
    replace h := xlt_b h
    refine e_aload_n rfl rfl rfl (xnm_no rfl) ?_
    refine e_dup rfl rfl (xnm_no rfl) ?_
    refine e_getI rfl rfl rfl rfl (xnm_no rfl) ?_
    refine e_iconst (x := 1) rfl (by decide) (xnm_no rfl) ?_
    refine e_iload_n rfl rfl (xnm_no rfl) ?_
    refine e_ishl rfl (xnm_no rfl) ?_
    refine e_ior rfl (xnm_no rfl) ?_
    refine e_putI rfl rfl rfl rfl (xnm_no rfl) ?_
    replace h := xlt_b h
    cases h
    exact e_retV rfl rfl
  · refine e_aload_n rfl rfl rfl (xnm_no rfl) ?_
    refine e_getR (r := 9) rfl rfl rfl rfl rfl (xnm_no rfl) ?_
    refine e_iload_n rfl rfl (xnm_no rfl) ?_
    obtain ⟨g5, h⟩ := xgd_some h
    refine e_iald rfl g5 (xnm_no rfl) ?_
    refine e_iload_n rfl rfl (xnm_no rfl) ?_
    refine e_icmp_le (t := 82) rfl rfl (xnm_no rfl) (xnm_no rfl) h (fun h => ?_) (fun h => ?_)
    · refine e_iinc (y := 1) rfl rfl rfl (by decide) (xnm_no rfl) ?_
      refine e_goto (t := 52) rfl rfl rfl ?_
      exact xlfV h
    · refine e_aload_n rfl rfl rfl (xnm_no rfl) ?_
      refine e_getR (r := 3) rfl rfl rfl rfl rfl (xnm_no rfl) ?_
      refine e_iload_n rfl rfl (xnm_no rfl) ?_
      refine e_aload_n rfl rfl rfl (xnm_no rfl) ?_
      refine e_getI rfl rfl rfl rfl (xnm_no rfl) ?_
      obtain ⟨w6, hw7, h⟩ := xbd_some h
      refine e_cVV (hc := hw7) (rest := []) rfl rfl rfl rfl rfl rfl rfl rfl (xnm_no rfl) ?_
      refine e_iinc (y := 1) rfl rfl rfl (by decide) (xnm_no rfl) ?_
      refine e_goto (t := 52) rfl rfl rfl ?_
      exact xlfV h
set_option maxRecDepth 4000 in
theorem fX7_tell_1_i (v1 : Int32) (v2 : Int64) (v3 : Int32) (m : xmm) {z : xmm} (h : (if v1 = 1 then if (m.1 1 12) = (4 : Int32) then (fX7_tellPost_1 v2 v3 m).bind fun (w4 : xmm) => some w4 else (fX7_tellEnd_1 v2 v3 m).bind fun (w2 : xmm) => some w2 else if v1 = 2 then (fX7_tellPlace_1 (Int64.toInt32 v2) v3 m).bind fun (w7 : xmm) => some w7 else if v1 = 3 then if (m.1 1 12) = (7 : Int32) then if (m.1 3 0) ≤ (m.1 1 14) then some m else (fX7_refuse_1 (6 : Int32) v3 m).bind fun (w10 : xmm) => some w10 else some m else xlt (xwi m 1 12 v1) fun (m12 : xmm) => xlt (xwi m12 1 13 (0 : Int32)) fun (m13 : xmm) => xlt (xwi m13 1 14 (0 : Int32)) fun (m14 : xmm) => some m14) = some z) : fX7_tell_1 v1 v2 v3 m = some z := by
  refine xstV ?_
  show xT 87 4 0 [(0, .ref 1), (1, .int v1), (2, .long v2), (4, .int v3)] [] m (none, z)
  refine e_iload_n rfl rfl (xnm_no rfl) ?_
  by_cases c1 : v1 = 1
  · rw [if_pos c1] at h
    refine e_sw (t := 28) (o := 27) rfl (by decide) (xsw_p c1) rfl (xnm_no rfl) ?_
    refine e_aload_n rfl rfl rfl (xnm_no rfl) ?_
    refine e_getI rfl rfl rfl rfl (xnm_no rfl) ?_
    refine e_iconst (x := 4) rfl (by decide) (xnm_no rfl) ?_
    refine e_icmp_ne (t := 46) rfl rfl (xnm_no rfl) (xnm_no rfl) h (fun h => ?_) (fun h => ?_)
    · refine e_aload_n rfl rfl rfl (xnm_no rfl) ?_
      refine e_lload_n rfl rfl (xnm_no rfl) ?_
      refine e_iload rfl rfl (xnm_no rfl) ?_
      obtain ⟨w2, hw3, h⟩ := xbd_some h
      refine e_cVV (hc := hw3) (rest := []) rfl rfl rfl rfl rfl rfl rfl rfl (xnm_no rfl) ?_
      refine e_goto (t := 116) rfl rfl (xnm_no rfl) ?_
      cases h
      exact e_retV rfl rfl
    · refine e_aload_n rfl rfl rfl (xnm_no rfl) ?_
      refine e_lload_n rfl rfl (xnm_no rfl) ?_
      refine e_iload rfl rfl (xnm_no rfl) ?_
      obtain ⟨w4, hw5, h⟩ := xbd_some h
      refine e_cVV (hc := hw5) (rest := []) rfl rfl rfl rfl rfl rfl rfl rfl (xnm_no rfl) ?_
      refine e_goto (t := 116) rfl rfl (xnm_no rfl) ?_
      cases h
      exact e_retV rfl rfl
  · rw [if_neg c1] at h
    by_cases c6 : v1 = 2
    · rw [if_pos c6] at h
      refine e_sw (t := 56) (o := 55) rfl (by decide) (xsw_n c1 (xsw_p c6)) rfl (xnm_no rfl) ?_
      refine e_aload_n rfl rfl rfl (xnm_no rfl) ?_
      refine e_lload_n rfl rfl (xnm_no rfl) ?_
      refine e_l2i rfl (xnm_no rfl) ?_
      refine e_iload rfl rfl (xnm_no rfl) ?_
      obtain ⟨w7, hw8, h⟩ := xbd_some h
      refine e_cVV (hc := hw8) (rest := []) rfl rfl rfl rfl rfl rfl rfl rfl (xnm_no rfl) ?_
      refine e_goto (t := 116) rfl rfl (xnm_no rfl) ?_
      cases h
      exact e_retV rfl rfl
    · rw [if_neg c6] at h
      by_cases c9 : v1 = 3
      · rw [if_pos c9] at h
        refine e_sw (t := 67) (o := 66) rfl (by decide) (xsw_n c1 (xsw_n c6 (xsw_p c9))) rfl (xnm_no rfl) ?_
        refine e_aload_n rfl rfl rfl (xnm_no rfl) ?_
        refine e_getI rfl rfl rfl rfl (xnm_no rfl) ?_
        refine e_bipush (x := 7) rfl (by decide) (xnm_no rfl) ?_
        refine e_icmp_ne (t := 116) rfl rfl (xnm_no rfl) (xnm_no rfl) h (fun h => ?_) (fun h => ?_)
        · cases h
          exact e_retV rfl rfl
        · refine e_aload_n rfl rfl rfl (xnm_no rfl) ?_
          refine e_getI rfl rfl rfl rfl (xnm_no rfl) ?_
          refine e_aload_n rfl rfl rfl (xnm_no rfl) ?_
          refine e_getR (r := 3) rfl rfl rfl rfl rfl (xnm_no rfl) ?_
          refine e_getI rfl rfl rfl rfl (xnm_no rfl) ?_
          refine e_icmp_ge (t := 116) rfl rfl (xnm_no rfl) (xnm_no rfl) h (fun h => ?_) (fun h => ?_)
          · cases h
            exact e_retV rfl rfl
          · refine e_aload_n rfl rfl rfl (xnm_no rfl) ?_
            refine e_bipush (x := 6) rfl (by decide) (xnm_no rfl) ?_
            refine e_iload rfl rfl (xnm_no rfl) ?_
            obtain ⟨w10, hw11, h⟩ := xbd_some h
            refine e_cVV (hc := hw11) (rest := []) rfl rfl rfl rfl rfl rfl rfl rfl (xnm_no rfl) ?_
            refine e_goto (t := 116) rfl rfl (xnm_no rfl) ?_
            cases h
            exact e_retV rfl rfl
      · rw [if_neg c9] at h
        refine e_sw (t := 101) (o := 100) rfl (by decide) (xsw_n c1 (xsw_n c6 (xsw_n c9 xsw_d))) rfl (xnm_no rfl) ?_
        refine e_aload_n rfl rfl rfl (xnm_no rfl) ?_
        refine e_iload_n rfl rfl (xnm_no rfl) ?_
        refine e_putI rfl rfl rfl rfl (xnm_no rfl) ?_
        replace h := xlt_b h
        refine e_aload_n rfl rfl rfl (xnm_no rfl) ?_
        refine e_iconst (x := 0) rfl (by decide) (xnm_no rfl) ?_
        refine e_putI rfl rfl rfl rfl (xnm_no rfl) ?_
        replace h := xlt_b h
        refine e_aload_n rfl rfl rfl (xnm_no rfl) ?_
        refine e_iconst (x := 0) rfl (by decide) (xnm_no rfl) ?_
        refine e_putI rfl rfl rfl rfl (xnm_no rfl) ?_
        replace h := xlt_b h
        cases h
        exact e_retV rfl rfl
set_option maxRecDepth 4000 in
theorem fX7_readText_1_i (m : xmm) {z : xmm} (h : (xlt (xwi m 1 2 (0 : Int32)) fun (m1 : xmm) => xlt (xwi m1 1 3 (-1 : Int32)) fun (m2 : xmm) => (fX7_checkForm_1 m2).bind fun (w3 : xmm) => (fX3_clear 3 w3).bind fun (w5 : xmm) => bX7_readText_1_23 (0 : Int32) w5) = some z) : fX7_readText_1 m = some z := by
  refine xstV ?_
  show xT 72 8 0 [(0, .ref 1)] [] m (none, z)
  refine e_aload_n rfl rfl rfl (xnm_no rfl) ?_
  refine e_iconst (x := 0) rfl (by decide) (xnm_no rfl) ?_
  refine e_putI rfl rfl rfl rfl (xnm_no rfl) ?_
  replace h := xlt_b h
  refine e_aload_n rfl rfl rfl (xnm_no rfl) ?_
  refine e_iconst (x := -1) rfl (by decide) (xnm_no rfl) ?_
  refine e_putI rfl rfl rfl rfl (xnm_no rfl) ?_
  replace h := xlt_b h
  refine e_aload_n rfl rfl rfl (xnm_no rfl) ?_
  obtain ⟨w3, hw4, h⟩ := xbd_some h
  refine e_cVV (hc := hw4) (rest := []) rfl rfl rfl rfl rfl rfl rfl rfl (xnm_no rfl) ?_
  refine e_aload_n rfl rfl rfl (xnm_no rfl) ?_
  refine e_getR (r := 3) rfl rfl rfl rfl rfl (xnm_no rfl) ?_
  obtain ⟨w5, hw6, h⟩ := xbd_some h
  refine e_cVV (hc := hw6) (rest := []) rfl rfl rfl rfl rfl rfl rfl rfl (xnm_no rfl) ?_
  refine e_iconst (x := 0) rfl (by decide) (xnm_no rfl) ?_
  refine e_istore_n rfl rfl rfl ?_
  exact xlfV h
set_option maxRecDepth 4000 in
theorem bX7_readText_1_23_i (v1 : Int32) (m : xmm) {z : xmm} (h : (if (m.1 1 8) ≤ v1 then xlt (xwi m 1 1 (0 : Int32)) fun (m1 : xmm) => some m1 else if (m.1 1 2) = 0 then xgd (xinb 400 v1) ((fX7_tell_1 (m.1 5 (v1).toNatClampNeg) (m.2 7 (v1).toNatClampNeg) (m.1 6 (v1).toNatClampNeg) m).bind fun (w4 : xmm) => bX7_readText_1_23 (v1 + (1 : Int32)) w4) else xlt (xwi m 1 1 (0 : Int32)) fun (m2 : xmm) => some m2) = some z) : bX7_readText_1_23 v1 m = some z := by
  refine xstV ?_
  show xT 72 8 23 [(0, .ref 1), (1, .int v1)] [] m (none, z)
  refine e_iload_n rfl rfl (xnm_no rfl) ?_
  refine e_aload_n rfl rfl rfl (xnm_no rfl) ?_
  refine e_getI rfl rfl rfl rfl (xnm_no rfl) ?_
  refine e_icmp_ge (t := 66) rfl rfl (xnm_no rfl) (xnm_no rfl) h (fun h => ?_) (fun h => ?_)
  · refine e_aload_n rfl rfl rfl (xnm_no rfl) ?_
    refine e_iconst (x := 0) rfl (by decide) (xnm_no rfl) ?_
    refine e_putI rfl rfl rfl rfl (xnm_no rfl) ?_
    replace h := xlt_b h
    cases h
    exact e_retV rfl rfl
  · refine e_aload_n rfl rfl rfl (xnm_no rfl) ?_
    refine e_getI rfl rfl rfl rfl (xnm_no rfl) ?_
    refine e_if_ne (t := 66) rfl rfl (xnm_no rfl) (xnm_no rfl) h (fun h => ?_) (fun h => ?_)
    · refine e_aload_n rfl rfl rfl (xnm_no rfl) ?_
      refine e_iconst (x := 0) rfl (by decide) (xnm_no rfl) ?_
      refine e_putI rfl rfl rfl rfl (xnm_no rfl) ?_
      replace h := xlt_b h
      cases h
      exact e_retV rfl rfl
    · refine e_aload_n rfl rfl rfl (xnm_no rfl) ?_
      refine e_aload_n rfl rfl rfl (xnm_no rfl) ?_
      refine e_getR (r := 5) rfl rfl rfl rfl rfl (xnm_no rfl) ?_
      refine e_iload_n rfl rfl (xnm_no rfl) ?_
      obtain ⟨g3, h⟩ := xgd_some h
      refine e_iald rfl g3 (xnm_no rfl) ?_
      refine e_aload_n rfl rfl rfl (xnm_no rfl) ?_
      refine e_getR (r := 7) rfl rfl rfl rfl rfl (xnm_no rfl) ?_
      refine e_iload_n rfl rfl (xnm_no rfl) ?_
      refine e_lald rfl g3 (xnm_no rfl) ?_
      refine e_aload_n rfl rfl rfl (xnm_no rfl) ?_
      refine e_getR (r := 6) rfl rfl rfl rfl rfl (xnm_no rfl) ?_
      refine e_iload_n rfl rfl (xnm_no rfl) ?_
      refine e_iald rfl g3 (xnm_no rfl) ?_
      obtain ⟨w4, hw5, h⟩ := xbd_some h
      refine e_cVV (hc := hw5) (rest := []) rfl rfl rfl rfl rfl rfl rfl rfl (xnm_no rfl) ?_
      refine e_iinc (y := 1) rfl rfl rfl (by decide) (xnm_no rfl) ?_
      refine e_goto (t := 23) rfl rfl rfl ?_
      exact xlfV h
set_option maxRecDepth 4000 in
theorem fX3_copyFrom_i (v0 : Nat) (v1 : Nat) (m : xmm) {z : xmm} (h : (xgd (!(Nat.beq v0 1999)) (xgd (!(Nat.beq v1 1999)) (xgd (xob v1 3) (xgd (xob v0 3) (xlt (xwi m v0 0 (m.1 v1 0)) fun (m5 : xmm) => xgd (xz01 (m5.1 v1 1)) (xlt (xwi m5 v0 1 (m5.1 v1 1)) fun (m7 : xmm) => bX3_copyFrom_18 v0 v1 (0 : Int32) m7)))))) = some z) : fX3_copyFrom v0 v1 m = some z := by
  refine xstV ?_
  show xT 32 0 0 [(0, .ref v0), (1, .ref v1)] [] m (none, z)
  obtain ⟨g1, h⟩ := xgd_some h
  refine e_aload_n rfl rfl (xnb g1) (xnm_no rfl) ?_
  obtain ⟨g2, h⟩ := xgd_some h
  refine e_aload_n rfl rfl (xnb g2) (xnm_no rfl) ?_
  obtain ⟨g3, h⟩ := xgd_some h
  refine e_getI rfl rfl rfl g3 (xnm_no rfl) ?_
  obtain ⟨g4, h⟩ := xgd_some h
  refine e_putI rfl rfl rfl g4 (xnm_no rfl) ?_
  replace h := xlt_b h
  refine e_aload_n rfl rfl (xnb g1) (xnm_no rfl) ?_
  refine e_aload_n rfl rfl (xnb g2) (xnm_no rfl) ?_
  refine e_getI rfl rfl rfl g3 (xnm_no rfl) ?_
  obtain ⟨g6, h⟩ := xgd_some h
  refine e_putI rfl rfl g6 g4 (xnm_no rfl) ?_
  replace h := xlt_b h
  refine e_iconst (x := 0) rfl (by decide) (xnm_no rfl) ?_
  refine e_istore_n rfl rfl rfl ?_
  exact xlfV h
set_option maxRecDepth 4000 in
theorem bX3_copyFrom_18_i (v0 : Nat) (v1 : Nat) (v2 : Int32) (m : xmm) {z : xmm} (h : (if (8 : Int32) ≤ v2 then some m else xgd (!(Nat.beq v0 1999)) (xgd (xob v0 3) (xgr (xR0 v0 2) fun r3 => xgd (!(Nat.beq v1 1999)) (xgd (xob v1 3) (xgr (xR0 v1 2) fun r7 => xgd (xia 1 r7 v2) (xgd (xia 1 r3 v2) (xlt (xwi m r3 (v2).toNatClampNeg (m.1 r7 (v2).toNatClampNeg)) fun (m11 : xmm) => bX3_copyFrom_18 v0 v1 (v2 + (1 : Int32)) m11))))))) = some z) : bX3_copyFrom_18 v0 v1 v2 m = some z := by
  refine xstV ?_
  show xT 32 0 18 [(0, .ref v0), (1, .ref v1), (2, .int v2)] [] m (none, z)
  refine e_iload_n rfl rfl (xnm_no rfl) ?_
  refine e_bipush (x := 8) rfl (by decide) (xnm_no rfl) ?_
  refine e_icmp_ge (t := 42) rfl rfl (xnm_no rfl) (xnm_no rfl) h (fun h => ?_) (fun h => ?_)
  · cases h
    exact e_retV rfl rfl
  · obtain ⟨g1, h⟩ := xgd_some h
    refine e_aload_n rfl rfl (xnb g1) (xnm_no rfl) ?_
    obtain ⟨g2, h⟩ := xgd_some h
    obtain ⟨r3, hr4, h⟩ := xgr_some h
    refine e_getR rfl rfl rfl g2 hr4 (xnm_no rfl) ?_
    refine e_iload_n rfl rfl (xnm_no rfl) ?_
    obtain ⟨g5, h⟩ := xgd_some h
    refine e_aload_n rfl rfl (xnb g5) (xnm_no rfl) ?_
    obtain ⟨g6, h⟩ := xgd_some h
    obtain ⟨r7, hr8, h⟩ := xgr_some h
    refine e_getR rfl rfl rfl g6 hr8 (xnm_no rfl) ?_
    refine e_iload_n rfl rfl (xnm_no rfl) ?_
    obtain ⟨g9, h⟩ := xgd_some h
    refine e_iald rfl g9 (xnm_no rfl) ?_
    obtain ⟨g10, h⟩ := xgd_some h
    refine e_iast rfl g10 (xnm_no rfl) ?_
    replace h := xlt_b h
    refine e_iinc (y := 1) rfl rfl rfl (by decide) (xnm_no rfl) ?_
    refine e_goto (t := 18) rfl rfl rfl ?_
    exact xlfV h
set_option maxRecDepth 4000 in
theorem fX4_forget_14_i (m : xmm) {z : xmm} (h : (xlt (xwi m 14 2 (0 : Int32)) fun (m1 : xmm) => some m1) = some z) : fX4_forget_14 m = some z := by
  refine xstV ?_
  show xT 41 0 0 [(0, .ref 14)] [] m (none, z)
  refine e_aload_n rfl rfl rfl (xnm_no rfl) ?_
  refine e_iconst (x := 0) rfl (by decide) (xnm_no rfl) ?_
  refine e_putI rfl rfl rfl rfl (xnm_no rfl) ?_
  replace h := xlt_b h
  cases h
  exact e_retV rfl rfl
set_option maxRecDepth 4000 in
theorem fX11_read_0_i (m : xmm) {z : Int32 × xmm} (h : ((fX7_readText_1 m).bind fun (w1 : xmm) => if (w1.1 1 2) = 0 then (fX3_copyFrom 10 3 w1).bind fun (w3 : xmm) => xlt (xwi w3 0 6 (0 : Int32)) fun (m5 : xmm) => (fX4_forget_14 m5).bind fun (w6 : xmm) => xlt (xwi w6 0 5 (0 : Int32)) fun (m8 : xmm) => some ((m8.1 1 2), m8) else some ((w1.1 1 2), w1)) = some z) : fX11_read_0 m = some z := by
  refine xstI ?_
  show xT 117 9 0 [(0, .ref 0)] [] m (some (.int z.1), z.2)
  refine e_aload_n rfl rfl rfl (xnm_no rfl) ?_
  refine e_getR (r := 1) rfl rfl rfl rfl rfl (xnm_no rfl) ?_
  obtain ⟨w1, hw2, h⟩ := xbd_some h
  refine e_cVV (hc := hw2) (rest := []) rfl rfl rfl rfl rfl rfl rfl rfl (xnm_no rfl) ?_
  refine e_aload_n rfl rfl rfl (xnm_no rfl) ?_
  refine e_getR (r := 1) rfl rfl rfl rfl rfl (xnm_no rfl) ?_
  refine e_getI rfl rfl rfl rfl (xnm_no rfl) ?_
  refine e_if_ne (t := 48) rfl rfl (xnm_no rfl) (xnm_no rfl) h (fun h => ?_) (fun h => ?_)
  · refine e_aload_n rfl rfl rfl (xnm_no rfl) ?_
    refine e_getR (r := 1) rfl rfl rfl rfl rfl (xnm_no rfl) ?_
    refine e_getI rfl rfl rfl rfl (xnm_no rfl) ?_
    cases h
    exact e_retI rfl rfl
  · refine e_aload_n rfl rfl rfl (xnm_no rfl) ?_
    refine e_getR (r := 10) rfl rfl rfl rfl rfl (xnm_no rfl) ?_
    refine e_aload_n rfl rfl rfl (xnm_no rfl) ?_
    refine e_getR (r := 1) rfl rfl rfl rfl rfl (xnm_no rfl) ?_
    refine e_getR (r := 3) rfl rfl rfl rfl rfl (xnm_no rfl) ?_
    obtain ⟨w3, hw4, h⟩ := xbd_some h
    refine e_cVV (hc := hw4) (rest := []) rfl rfl rfl rfl rfl rfl rfl rfl (xnm_no rfl) ?_
    refine e_aload_n rfl rfl rfl (xnm_no rfl) ?_
    refine e_iconst (x := 0) rfl (by decide) (xnm_no rfl) ?_
    refine e_putI rfl rfl (by decide) rfl (xnm_no rfl) ?_
    replace h := xlt_b h
    refine e_aload_n rfl rfl rfl (xnm_no rfl) ?_
    refine e_getR (r := 14) rfl rfl rfl rfl rfl (xnm_no rfl) ?_
    obtain ⟨w6, hw7, h⟩ := xbd_some h
    refine e_cVV (hc := hw7) (rest := []) rfl rfl rfl rfl rfl rfl rfl rfl (xnm_no rfl) ?_
    refine e_aload_n rfl rfl rfl (xnm_no rfl) ?_
    refine e_iconst (x := 0) rfl (by decide) (xnm_no rfl) ?_
    refine e_putI rfl rfl rfl rfl (xnm_no rfl) ?_
    replace h := xlt_b h
    refine e_aload_n rfl rfl rfl (xnm_no rfl) ?_
    refine e_getR (r := 1) rfl rfl rfl rfl rfl (xnm_no rfl) ?_
    refine e_getI rfl rfl rfl rfl (xnm_no rfl) ?_
    cases h
    exact e_retI rfl rfl
set_option maxRecDepth 4000 in
theorem fX12_byteAt_144_i (v1 : Int32) (m : xmm) {z : Int32 × xmm} (h : (if (m.1 144 4) ≤ v1 then some ((0 : Int32), m) else xgd (xinb 2000 v1) (some (((m.1 146 (v1).toNatClampNeg) &&& (255 : Int32)), m))) = some z) : fX12_byteAt_144 v1 m = some z := by
  refine xstI ?_
  show xT 158 0 0 [(0, .ref 144), (1, .int v1)] [] m (some (.int z.1), z.2)
  refine e_iload_n rfl rfl (xnm_no rfl) ?_
  refine e_aload_n rfl rfl rfl (xnm_no rfl) ?_
  refine e_getI rfl rfl rfl rfl (xnm_no rfl) ?_
  refine e_icmp_ge (t := 21) rfl rfl (xnm_no rfl) (xnm_no rfl) h (fun h => ?_) (fun h => ?_)
  · refine e_iconst (x := 0) rfl (by decide) (xnm_no rfl) ?_
    cases h
    exact e_retI rfl rfl
  · refine e_aload_n rfl rfl rfl (xnm_no rfl) ?_
    refine e_getR (r := 146) rfl rfl rfl rfl rfl (xnm_no rfl) ?_
    refine e_iload_n rfl rfl (xnm_no rfl) ?_
    obtain ⟨g1, h⟩ := xgd_some h
    refine e_bald rfl (xor1 g1) (xnm_no rfl) ?_
    refine e_sipush (x := 255) rfl (by decide) (xnm_no rfl) ?_
    refine e_iand rfl (xnm_no rfl) ?_
    refine e_goto (t := 22) rfl rfl (xnm_no rfl) ?_
    cases h
    exact e_retI rfl rfl
set_option maxRecDepth 4000 in
theorem fX12_isLetter_i (v0 : Int32) (m : xmm) {z : Int32 × xmm} (h : (if v0 < (97 : Int32) then some ((0 : Int32), m) else if (122 : Int32) < v0 then some ((0 : Int32), m) else some ((1 : Int32), m)) = some z) : fX12_isLetter v0 m = some z := by
  refine xstI ?_
  show xT 160 0 0 [(0, .int v0)] [] m (some (.int z.1), z.2)
  refine e_iload_n rfl rfl (xnm_no rfl) ?_
  refine e_bipush (x := 97) rfl (by decide) (xnm_no rfl) ?_
  refine e_icmp_lt (t := 16) rfl rfl (xnm_no rfl) (xnm_no rfl) h (fun h => ?_) (fun h => ?_)
  · refine e_iconst (x := 0) rfl (by decide) (xnm_no rfl) ?_
    cases h
    exact e_retI rfl (by decide)
  · refine e_iload_n rfl rfl (xnm_no rfl) ?_
    refine e_bipush (x := 122) rfl (by decide) (xnm_no rfl) ?_
    refine e_icmp_gt (t := 16) rfl rfl (xnm_no rfl) (xnm_no rfl) h (fun h => ?_) (fun h => ?_)
    · refine e_iconst (x := 0) rfl (by decide) (xnm_no rfl) ?_
      cases h
      exact e_retI rfl (by decide)
    · refine e_iconst (x := 1) rfl (by decide) (xnm_no rfl) ?_
      refine e_goto (t := 17) rfl rfl (xnm_no rfl) ?_
      cases h
      exact e_retI rfl (by decide)
set_option maxRecDepth 4000 in
theorem fX12_isDigit_i (v0 : Int32) (m : xmm) {z : Int32 × xmm} (h : (if v0 < (48 : Int32) then some ((0 : Int32), m) else if (57 : Int32) < v0 then some ((0 : Int32), m) else some ((1 : Int32), m)) = some z) : fX12_isDigit v0 m = some z := by
  refine xstI ?_
  show xT 159 0 0 [(0, .int v0)] [] m (some (.int z.1), z.2)
  refine e_iload_n rfl rfl (xnm_no rfl) ?_
  refine e_bipush (x := 48) rfl (by decide) (xnm_no rfl) ?_
  refine e_icmp_lt (t := 16) rfl rfl (xnm_no rfl) (xnm_no rfl) h (fun h => ?_) (fun h => ?_)
  · refine e_iconst (x := 0) rfl (by decide) (xnm_no rfl) ?_
    cases h
    exact e_retI rfl (by decide)
  · refine e_iload_n rfl rfl (xnm_no rfl) ?_
    refine e_bipush (x := 57) rfl (by decide) (xnm_no rfl) ?_
    refine e_icmp_gt (t := 16) rfl rfl (xnm_no rfl) (xnm_no rfl) h (fun h => ?_) (fun h => ?_)
    · refine e_iconst (x := 0) rfl (by decide) (xnm_no rfl) ?_
      cases h
      exact e_retI rfl (by decide)
    · refine e_iconst (x := 1) rfl (by decide) (xnm_no rfl) ?_
      refine e_goto (t := 17) rfl rfl (xnm_no rfl) ?_
      cases h
      exact e_retI rfl (by decide)
set_option maxRecDepth 4000 in
theorem fX12_token_144_i (v1 : Int32) (v2 : Int32) (v3 : Int32) (v4 : Int64) (m : xmm) {z : xmm} (h : (xgd (xinb 403 (m.1 144 10)) (xlt (xwi m 147 ((m.1 144 10)).toNatClampNeg v1) fun (m2 : xmm) => xgd (xinb 403 (m2.1 144 10)) (xlt (xwi m2 148 ((m2.1 144 10)).toNatClampNeg v2) fun (m4 : xmm) => xgd (xinb 403 (m4.1 144 10)) (xlt (xwi m4 149 ((m4.1 144 10)).toNatClampNeg v3) fun (m6 : xmm) => xgd (xinb 403 (m6.1 144 10)) (xlt (xwj m6 150 ((m6.1 144 10)).toNatClampNeg v4) fun (m8 : xmm) => xlt (xwi m8 144 10 ((m8.1 144 10) + (1 : Int32))) fun (m9 : xmm) => some m9))))) = some z) : fX12_token_144 v1 v2 v3 v4 m = some z := by
  refine xstV ?_
  show xT 163 0 0 [(0, .ref 144), (1, .int v1), (2, .int v2), (3, .int v3), (4, .long v4)] [] m (none, z)
  refine e_aload_n rfl rfl rfl (xnm_no rfl) ?_
  refine e_getR (r := 147) rfl rfl rfl rfl rfl (xnm_no rfl) ?_
  refine e_aload_n rfl rfl rfl (xnm_no rfl) ?_
  refine e_getI rfl rfl rfl rfl (xnm_no rfl) ?_
  refine e_iload_n rfl rfl (xnm_no rfl) ?_
  obtain ⟨g1, h⟩ := xgd_some h
  refine e_iast rfl g1 (xnm_no rfl) ?_
  replace h := xlt_b h
  refine e_aload_n rfl rfl rfl (xnm_no rfl) ?_
  refine e_getR (r := 148) rfl rfl rfl rfl rfl (xnm_no rfl) ?_
  refine e_aload_n rfl rfl rfl (xnm_no rfl) ?_
  refine e_getI rfl rfl rfl rfl (xnm_no rfl) ?_
  refine e_iload_n rfl rfl (xnm_no rfl) ?_
  obtain ⟨g3, h⟩ := xgd_some h
  refine e_iast rfl g3 (xnm_no rfl) ?_
  replace h := xlt_b h
  refine e_aload_n rfl rfl rfl (xnm_no rfl) ?_
  refine e_getR (r := 149) rfl rfl rfl rfl rfl (xnm_no rfl) ?_
  refine e_aload_n rfl rfl rfl (xnm_no rfl) ?_
  refine e_getI rfl rfl rfl rfl (xnm_no rfl) ?_
  refine e_iload_n rfl rfl (xnm_no rfl) ?_
  obtain ⟨g5, h⟩ := xgd_some h
  refine e_iast rfl g5 (xnm_no rfl) ?_
  replace h := xlt_b h
  refine e_aload_n rfl rfl rfl (xnm_no rfl) ?_
  refine e_getR (r := 150) rfl rfl rfl rfl rfl (xnm_no rfl) ?_
  refine e_aload_n rfl rfl rfl (xnm_no rfl) ?_
  refine e_getI rfl rfl rfl rfl (xnm_no rfl) ?_
  refine e_lload rfl rfl (xnm_no rfl) ?_
  obtain ⟨g7, h⟩ := xgd_some h
  refine e_last rfl g7 (xnm_no rfl) ?_
  replace h := xlt_b h
  refine e_aload_n rfl rfl rfl (xnm_no rfl) ?_
  refine e_dup rfl rfl (xnm_no rfl) ?_
  refine e_getI rfl rfl rfl rfl (xnm_no rfl) ?_
  refine e_iconst (x := 1) rfl (by decide) (xnm_no rfl) ?_
  refine e_iadd rfl (xnm_no rfl) ?_
  refine e_putI rfl rfl rfl rfl (xnm_no rfl) ?_
  replace h := xlt_b h
  cases h
  exact e_retV rfl rfl
set_option maxRecDepth 4000 in
theorem fX12_signAt_144_i (v1 : Int32) (v2 : Int32) (m : xmm) {z : Int32 × xmm} (h : (if v2 = (59 : Int32) then bX12_signAt_144_12 v1 (4 : Int32) m else bX12_signAt_144_12 v1 (3 : Int32) m) = some z) : fX12_signAt_144 v1 v2 m = some z := by
  refine xstI ?_
  show xT 165 1 0 [(0, .ref 144), (1, .int v1), (2, .int v2)] [] m (some (.int z.1), z.2)
  refine e_aload_n rfl rfl rfl (xnm_no rfl) ?_
  refine e_iload_n rfl rfl (xnm_no rfl) ?_
  refine e_bipush (x := 59) rfl (by decide) (xnm_no rfl) ?_
  refine e_icmp_ne (t := 11) rfl rfl (xnm_no rfl) (xnm_no rfl) h (fun h => ?_) (fun h => ?_)
  · refine e_iconst (x := 3) rfl (by decide) rfl ?_
    exact xlfI h
  · refine e_iconst (x := 4) rfl (by decide) (xnm_no rfl) ?_
    refine e_goto (t := 12) rfl rfl rfl ?_
    exact xlfI h
set_option maxRecDepth 4000 in
theorem bX12_signAt_144_12_i (v1 : Int32) (s1 : Int32) (m : xmm) {z : Int32 × xmm} (h : ((fX12_token_144 s1 v1 (0 : Int32) (0 : Int64) m).bind fun (w1 : xmm) => some ((1 : Int32), w1)) = some z) : bX12_signAt_144_12 v1 s1 m = some z := by
  refine xstI ?_
  show xT 165 1 12 [(1, .int v1)] [.int s1, .ref 144] m (some (.int z.1), z.2)
  refine e_iload_n rfl rfl (xnm_no rfl) ?_
  refine e_iconst (x := 0) rfl (by decide) (xnm_no rfl) ?_
  refine e_lconst (x := 0) rfl (by decide) (xnm_no rfl) ?_
  obtain ⟨w1, hw2, h⟩ := xbd_some h
  refine e_cVV (hc := hw2) (rest := []) rfl rfl rfl rfl rfl rfl rfl rfl (xnm_no rfl) ?_
  refine e_iconst (x := 1) rfl (by decide) (xnm_no rfl) ?_
  cases h
  exact e_retI rfl rfl
set_option maxRecDepth 4000 in
theorem fX12_appends_i (v0 : Int64) (v1 : Int32) (m : xmm) {z : Int64 × xmm} (h : (if v1 = 0 then some (v0, m) else some ((((27 : Int64) * v0) + (Int32.toInt64 ((v1 - (97 : Int32)) + (1 : Int32)))), m)) = some z) : fX12_appends v0 v1 m = some z := by
  refine xstJ ?_
  show xT 161 0 0 [(0, .long v0), (2, .int v1)] [] m (some (.long z.1), z.2)
  refine e_iload_n rfl rfl (xnm_no rfl) ?_
  refine e_if_ne (t := 8) rfl rfl (xnm_no rfl) (xnm_no rfl) h (fun h => ?_) (fun h => ?_)
  · refine e_ldc2 (v := 27) rfl rfl (xnm_no rfl) ?_
    refine e_lload_n rfl rfl (xnm_no rfl) ?_
    refine e_lmul rfl (xnm_no rfl) ?_
    refine e_iload_n rfl rfl (xnm_no rfl) ?_
    refine e_bipush (x := 97) rfl (by decide) (xnm_no rfl) ?_
    refine e_isub rfl (xnm_no rfl) ?_
    refine e_iconst (x := 1) rfl (by decide) (xnm_no rfl) ?_
    refine e_iadd rfl (xnm_no rfl) ?_
    refine e_i2l rfl (xnm_no rfl) ?_
    refine e_ladd rfl (xnm_no rfl) ?_
    cases h
    exact e_retJ rfl rfl
  · refine e_lload_n rfl rfl (xnm_no rfl) ?_
    refine e_goto (t := 21) rfl rfl (xnm_no rfl) ?_
    cases h
    exact e_retJ rfl rfl
set_option maxRecDepth 4000 in
theorem fX12_cutsText_144_i (m : xmm) {z : xmm} (h : (xlt (xwi m 144 10 (0 : Int32)) fun (m1 : xmm) => bX12_cutsText_144_7 (0 : Int32) m1) = some z) : fX12_cutsText_144 m = some z := by
  refine xstV ?_
  show xT 164 2 0 [(0, .ref 144)] [] m (none, z)
  refine e_aload_n rfl rfl rfl (xnm_no rfl) ?_
  refine e_iconst (x := 0) rfl (by decide) (xnm_no rfl) ?_
  refine e_putI rfl rfl rfl rfl (xnm_no rfl) ?_
  replace h := xlt_b h
  refine e_iconst (x := 0) rfl (by decide) (xnm_no rfl) ?_
  refine e_istore_n rfl rfl rfl ?_
  exact xlfV h
set_option maxRecDepth 4000 in
theorem bX12_cutsText_144_7_i (v1 : Int32) (m : xmm) {z : xmm} (h : (if (400 : Int32) < (m.1 144 10) then some m else (fX12_byteAt_144 v1 m).bind fun (w1 : Int32 × xmm) => if v1 < (w1.2.1 144 4) then if w1.1 = (9 : Int32) then bX12_cutsText_144_7 (v1 + (1 : Int32)) w1.2 else if w1.1 = (10 : Int32) then bX12_cutsText_144_7 (v1 + (1 : Int32)) w1.2 else if w1.1 = (13 : Int32) then bX12_cutsText_144_7 (v1 + (1 : Int32)) w1.2 else if w1.1 = (32 : Int32) then bX12_cutsText_144_7 (v1 + (1 : Int32)) w1.2 else (fX12_isLetter w1.1 w1.2).bind fun (w3 : Int32 × xmm) => if w3.1 = 0 then (fX12_isDigit w1.1 w3.2).bind fun (w5 : Int32 × xmm) => if w5.1 = 0 then (fX12_signAt_144 v1 w1.1 w5.2).bind fun (w7 : Int32 × xmm) => bX12_cutsText_144_7 (v1 + w7.1) w7.2 else bX12_cutsText_144_207 v1 (0 : Int32) (0 : Int32) w5.2 else bX12_cutsText_144_85 v1 (0 : Int32) (0 : Int64) w3.2 else (fX12_token_144 (0 : Int32) (w1.2.1 144 4) (0 : Int32) (0 : Int64) w1.2).bind fun (w9 : xmm) => some w9) = some z) : bX12_cutsText_144_7 v1 m = some z := by
  refine xstV ?_
  show xT 164 2 7 [(0, .ref 144), (1, .int v1)] [] m (none, z)
  refine e_aload_n rfl rfl rfl (xnm_no rfl) ?_
  refine e_getI rfl rfl rfl rfl (xnm_no rfl) ?_
  refine e_sipush (x := 400) rfl (by decide) (xnm_no rfl) ?_
  refine e_icmp_gt (t := 286) rfl rfl (xnm_no rfl) (xnm_no rfl) h (fun h => ?_) (fun h => ?_)
  · cases h
    exact e_retV rfl rfl
  · refine e_aload_n rfl rfl rfl (xnm_no rfl) ?_
    refine e_iload_n rfl rfl (xnm_no rfl) ?_
    obtain ⟨w1, hw2, h⟩ := xbd_some h
    refine e_cIV (hc := hw2) (rest := []) rfl rfl rfl rfl rfl rfl rfl rfl (xnm_no rfl) ?_
    refine e_istore_n rfl rfl (xnm_no rfl) ?_
    refine e_iload_n rfl rfl (xnm_no rfl) ?_
    refine e_aload_n rfl rfl rfl (xnm_no rfl) ?_
    refine e_getI rfl rfl rfl rfl (xnm_no rfl) ?_
    refine e_icmp_lt (t := 43) rfl rfl (xnm_no rfl) (xnm_no rfl) h (fun h => ?_) (fun h => ?_)
    · refine e_iload_n rfl rfl (xnm_no rfl) ?_
      refine e_bipush (x := 9) rfl (by decide) (xnm_no rfl) ?_
      refine e_icmp_eq (t := 67) rfl rfl (xnm_no rfl) (xnm_no rfl) h (fun h => ?_) (fun h => ?_)
      · refine e_iinc (y := 1) rfl rfl rfl (by decide) (xnm_no rfl) ?_
        refine e_goto (t := 283) rfl rfl (xnm_no rfl) ?_
        refine e_goto (t := 7) rfl rfl rfl ?_
        exact xlfV h
      · refine e_iload_n rfl rfl (xnm_no rfl) ?_
        refine e_bipush (x := 10) rfl (by decide) (xnm_no rfl) ?_
        refine e_icmp_eq (t := 67) rfl rfl (xnm_no rfl) (xnm_no rfl) h (fun h => ?_) (fun h => ?_)
        · refine e_iinc (y := 1) rfl rfl rfl (by decide) (xnm_no rfl) ?_
          refine e_goto (t := 283) rfl rfl (xnm_no rfl) ?_
          refine e_goto (t := 7) rfl rfl rfl ?_
          exact xlfV h
        · refine e_iload_n rfl rfl (xnm_no rfl) ?_
          refine e_bipush (x := 13) rfl (by decide) (xnm_no rfl) ?_
          refine e_icmp_eq (t := 67) rfl rfl (xnm_no rfl) (xnm_no rfl) h (fun h => ?_) (fun h => ?_)
          · refine e_iinc (y := 1) rfl rfl rfl (by decide) (xnm_no rfl) ?_
            refine e_goto (t := 283) rfl rfl (xnm_no rfl) ?_
            refine e_goto (t := 7) rfl rfl rfl ?_
            exact xlfV h
          · refine e_iload_n rfl rfl (xnm_no rfl) ?_
            refine e_bipush (x := 32) rfl (by decide) (xnm_no rfl) ?_
            refine e_icmp_ne (t := 73) rfl rfl (xnm_no rfl) (xnm_no rfl) h (fun h => ?_) (fun h => ?_)
            · refine e_iload_n rfl rfl (xnm_no rfl) ?_
              obtain ⟨w3, hw4, h⟩ := xbd_some h
              refine e_cIS (hc := hw4) (rest := []) rfl rfl rfl rfl rfl rfl rfl rfl (xnm_no rfl) ?_
              refine e_if_eq (t := 195) rfl rfl (xnm_no rfl) (xnm_no rfl) h (fun h => ?_) (fun h => ?_)
              · refine e_iload_n rfl rfl (xnm_no rfl) ?_
                obtain ⟨w5, hw6, h⟩ := xbd_some h
                refine e_cIS (hc := hw6) (rest := []) rfl rfl rfl rfl rfl rfl rfl rfl (xnm_no rfl) ?_
                refine e_if_eq (t := 274) rfl rfl (xnm_no rfl) (xnm_no rfl) h (fun h => ?_) (fun h => ?_)
                · refine e_iload_n rfl rfl (xnm_no rfl) ?_
                  refine e_aload_n rfl rfl rfl (xnm_no rfl) ?_
                  refine e_iload_n rfl rfl (xnm_no rfl) ?_
                  refine e_iload_n rfl rfl (xnm_no rfl) ?_
                  obtain ⟨w7, hw8, h⟩ := xbd_some h
                  refine e_cIV (hc := hw8) (rest := [.int _]) rfl rfl rfl rfl rfl rfl rfl rfl (xnm_no rfl) ?_
                  refine e_iadd rfl (xnm_no rfl) ?_
                  refine e_istore_n rfl rfl (xnm_no rfl) ?_
                  refine e_goto (t := 7) rfl rfl rfl ?_
                  exact xlfV h
                · refine e_iconst (x := 0) rfl (by decide) (xnm_no rfl) ?_
                  refine e_istore_n rfl rfl (xnm_no rfl) ?_
                  refine e_iconst (x := 0) rfl (by decide) (xnm_no rfl) ?_
                  refine e_istore rfl rfl rfl ?_
                  exact xlfV h
              · refine e_iconst (x := 0) rfl (by decide) (xnm_no rfl) ?_
                refine e_istore_n rfl rfl (xnm_no rfl) ?_
                refine e_lconst (x := 0) rfl (by decide) (xnm_no rfl) ?_
                refine e_lstore rfl rfl rfl ?_
                exact xlfV h
            · refine e_iinc (y := 1) rfl rfl rfl (by decide) (xnm_no rfl) ?_
              refine e_goto (t := 283) rfl rfl (xnm_no rfl) ?_
              refine e_goto (t := 7) rfl rfl rfl ?_
              exact xlfV h
    · refine e_aload_n rfl rfl rfl (xnm_no rfl) ?_
      refine e_iconst (x := 0) rfl (by decide) (xnm_no rfl) ?_
      refine e_aload_n rfl rfl rfl (xnm_no rfl) ?_
      refine e_getI rfl rfl rfl rfl (xnm_no rfl) ?_
      refine e_iconst (x := 0) rfl (by decide) (xnm_no rfl) ?_
      refine e_lconst (x := 0) rfl (by decide) (xnm_no rfl) ?_
      obtain ⟨w9, hw10, h⟩ := xbd_some h
      refine e_cVV (hc := hw10) (rest := []) rfl rfl rfl rfl rfl rfl rfl rfl (xnm_no rfl) ?_
      cases h
      exact e_retV rfl rfl
set_option maxRecDepth 4000 in
theorem bX12_cutsText_144_207_i (v1 : Int32) (v3 : Int32) (v4 : Int32) (m : xmm) {z : xmm} (h : ((fX12_byteAt_144 (v1 + v3) m).bind fun (w1 : Int32 × xmm) => (fX12_isDigit w1.1 w1.2).bind fun (w3 : Int32 × xmm) => if w3.1 = 0 then if v3 ≤ (4 : Int32) then bX12_cutsText_144_260 v1 v3 v4 (2 : Int32) w3.2 else bX12_cutsText_144_260 v1 v3 v4 (3 : Int32) w3.2 else if (4 : Int32) ≤ v3 then bX12_cutsText_144_207 v1 (v3 + (1 : Int32)) v4 w3.2 else (fX12_byteAt_144 (v1 + v3) w3.2).bind fun (w5 : Int32 × xmm) => bX12_cutsText_144_207 v1 (v3 + (1 : Int32)) ((((10 : Int32) * v4) + w5.1) - (48 : Int32)) w5.2) = some z) : bX12_cutsText_144_207 v1 v3 v4 m = some z := by
  refine xstV ?_
  show xT 164 2 207 [(0, .ref 144), (1, .int v1), (3, .int v3), (4, .int v4)] [] m (none, z)
  refine e_aload_n rfl rfl rfl (xnm_no rfl) ?_
  refine e_iload_n rfl rfl (xnm_no rfl) ?_
  refine e_iload_n rfl rfl (xnm_no rfl) ?_
  refine e_iadd rfl (xnm_no rfl) ?_
  obtain ⟨w1, hw2, h⟩ := xbd_some h
  refine e_cIV (hc := hw2) (rest := []) rfl rfl rfl rfl rfl rfl rfl rfl (xnm_no rfl) ?_
  obtain ⟨w3, hw4, h⟩ := xbd_some h
  refine e_cIS (hc := hw4) (rest := []) rfl rfl rfl rfl rfl rfl rfl rfl (xnm_no rfl) ?_
  refine e_if_eq (t := 249) rfl rfl (xnm_no rfl) (xnm_no rfl) h (fun h => ?_) (fun h => ?_)
  · refine e_aload_n rfl rfl rfl (xnm_no rfl) ?_
    refine e_iload_n rfl rfl (xnm_no rfl) ?_
    refine e_iconst (x := 4) rfl (by decide) (xnm_no rfl) ?_
    refine e_icmp_le (t := 259) rfl rfl (xnm_no rfl) (xnm_no rfl) h (fun h => ?_) (fun h => ?_)
    · refine e_iconst (x := 2) rfl (by decide) rfl ?_
      exact xlfV h
    · refine e_iconst (x := 3) rfl (by decide) (xnm_no rfl) ?_
      refine e_goto (t := 260) rfl rfl rfl ?_
      exact xlfV h
  · refine e_iload_n rfl rfl (xnm_no rfl) ?_
    refine e_iconst (x := 4) rfl (by decide) (xnm_no rfl) ?_
    refine e_icmp_ge (t := 243) rfl rfl (xnm_no rfl) (xnm_no rfl) h (fun h => ?_) (fun h => ?_)
    · refine e_iinc (y := 1) rfl rfl rfl (by decide) (xnm_no rfl) ?_
      refine e_goto (t := 207) rfl rfl rfl ?_
      exact xlfV h
    · refine e_bipush (x := 10) rfl (by decide) (xnm_no rfl) ?_
      refine e_iload rfl rfl (xnm_no rfl) ?_
      refine e_imul rfl (xnm_no rfl) ?_
      refine e_aload_n rfl rfl rfl (xnm_no rfl) ?_
      refine e_iload_n rfl rfl (xnm_no rfl) ?_
      refine e_iload_n rfl rfl (xnm_no rfl) ?_
      refine e_iadd rfl (xnm_no rfl) ?_
      obtain ⟨w5, hw6, h⟩ := xbd_some h
      refine e_cIV (hc := hw6) (rest := [.int _]) rfl rfl rfl rfl rfl rfl rfl rfl (xnm_no rfl) ?_
      refine e_iadd rfl (xnm_no rfl) ?_
      refine e_bipush (x := 48) rfl (by decide) (xnm_no rfl) ?_
      refine e_isub rfl (xnm_no rfl) ?_
      refine e_istore rfl rfl (xnm_no rfl) ?_
      refine e_iinc (y := 1) rfl rfl rfl (by decide) (xnm_no rfl) ?_
      refine e_goto (t := 207) rfl rfl rfl ?_
      exact xlfV h
set_option maxRecDepth 4000 in
theorem bX12_cutsText_144_85_i (v1 : Int32) (v3 : Int32) (v4 : Int64) (m : xmm) {z : xmm} (h : ((fX12_byteAt_144 (v1 + v3) m).bind fun (w1 : Int32 × xmm) => (fX12_isLetter w1.1 w1.2).bind fun (w3 : Int32 × xmm) => if w3.1 = 0 then if v3 ≤ (8 : Int32) then bX12_cutsText_144_135 v1 v3 v4 (1 : Int32) w3.2 else bX12_cutsText_144_135 v1 v3 v4 (3 : Int32) w3.2 else if (8 : Int32) ≤ v3 then bX12_cutsText_144_85 v1 (v3 + (1 : Int32)) v4 w3.2 else (fX12_byteAt_144 (v1 + v3) w3.2).bind fun (w5 : Int32 × xmm) => (fX12_appends v4 w5.1 w5.2).bind fun (w7 : Int64 × xmm) => bX12_cutsText_144_85 v1 (v3 + (1 : Int32)) w7.1 w7.2) = some z) : bX12_cutsText_144_85 v1 v3 v4 m = some z := by
  refine xstV ?_
  show xT 164 2 85 [(0, .ref 144), (1, .int v1), (3, .int v3), (4, .long v4)] [] m (none, z)
  refine e_aload_n rfl rfl rfl (xnm_no rfl) ?_
  refine e_iload_n rfl rfl (xnm_no rfl) ?_
  refine e_iload_n rfl rfl (xnm_no rfl) ?_
  refine e_iadd rfl (xnm_no rfl) ?_
  obtain ⟨w1, hw2, h⟩ := xbd_some h
  refine e_cIV (hc := hw2) (rest := []) rfl rfl rfl rfl rfl rfl rfl rfl (xnm_no rfl) ?_
  obtain ⟨w3, hw4, h⟩ := xbd_some h
  refine e_cIS (hc := hw4) (rest := []) rfl rfl rfl rfl rfl rfl rfl rfl (xnm_no rfl) ?_
  refine e_if_eq (t := 124) rfl rfl (xnm_no rfl) (xnm_no rfl) h (fun h => ?_) (fun h => ?_)
  · refine e_iload_n rfl rfl (xnm_no rfl) ?_
    refine e_bipush (x := 8) rfl (by decide) (xnm_no rfl) ?_
    refine e_icmp_le (t := 134) rfl rfl (xnm_no rfl) (xnm_no rfl) h (fun h => ?_) (fun h => ?_)
    · refine e_iconst (x := 1) rfl (by decide) rfl ?_
      exact xlfV h
    · refine e_iconst (x := 3) rfl (by decide) (xnm_no rfl) ?_
      refine e_goto (t := 135) rfl rfl rfl ?_
      exact xlfV h
  · refine e_iload_n rfl rfl (xnm_no rfl) ?_
    refine e_bipush (x := 8) rfl (by decide) (xnm_no rfl) ?_
    refine e_icmp_ge (t := 118) rfl rfl (xnm_no rfl) (xnm_no rfl) h (fun h => ?_) (fun h => ?_)
    · refine e_iinc (y := 1) rfl rfl rfl (by decide) (xnm_no rfl) ?_
      refine e_goto (t := 85) rfl rfl rfl ?_
      exact xlfV h
    · refine e_lload rfl rfl (xnm_no rfl) ?_
      refine e_aload_n rfl rfl rfl (xnm_no rfl) ?_
      refine e_iload_n rfl rfl (xnm_no rfl) ?_
      refine e_iload_n rfl rfl (xnm_no rfl) ?_
      refine e_iadd rfl (xnm_no rfl) ?_
      obtain ⟨w5, hw6, h⟩ := xbd_some h
      refine e_cIV (hc := hw6) (rest := [.long _]) rfl rfl rfl rfl rfl rfl rfl rfl (xnm_no rfl) ?_
      obtain ⟨w7, hw8, h⟩ := xbd_some h
      refine e_cJS (hc := hw8) (rest := []) rfl rfl rfl rfl rfl rfl rfl rfl (xnm_no rfl) ?_
      refine e_lstore rfl rfl (xnm_no rfl) ?_
      refine e_iinc (y := 1) rfl rfl rfl (by decide) (xnm_no rfl) ?_
      refine e_goto (t := 85) rfl rfl rfl ?_
      exact xlfV h
set_option maxRecDepth 4000 in
theorem bX12_cutsText_144_260_i (v1 : Int32) (v3 : Int32) (v4 : Int32) (s1 : Int32) (m : xmm) {z : xmm} (h : ((fX12_token_144 s1 v1 v4 (0 : Int64) m).bind fun (w1 : xmm) => bX12_cutsText_144_7 (v1 + v3) w1) = some z) : bX12_cutsText_144_260 v1 v3 v4 s1 m = some z := by
  refine xstV ?_
  show xT 164 2 260 [(0, .ref 144), (1, .int v1), (3, .int v3), (4, .int v4)] [.int s1, .ref 144] m (none, z)
  refine e_iload_n rfl rfl (xnm_no rfl) ?_
  refine e_iload rfl rfl (xnm_no rfl) ?_
  refine e_lconst (x := 0) rfl (by decide) (xnm_no rfl) ?_
  obtain ⟨w1, hw2, h⟩ := xbd_some h
  refine e_cVV (hc := hw2) (rest := []) rfl rfl rfl rfl rfl rfl rfl rfl (xnm_no rfl) ?_
  refine e_iload_n rfl rfl (xnm_no rfl) ?_
  refine e_iload_n rfl rfl (xnm_no rfl) ?_
  refine e_iadd rfl (xnm_no rfl) ?_
  refine e_istore_n rfl rfl (xnm_no rfl) ?_
  refine e_goto (t := 283) rfl rfl (xnm_no rfl) ?_
  refine e_goto (t := 7) rfl rfl rfl ?_
  exact xlfV h
set_option maxRecDepth 4000 in
theorem bX12_cutsText_144_135_i (v1 : Int32) (v3 : Int32) (v4 : Int64) (s0 : Int32) (m : xmm) {z : xmm} (h : (if (8 : Int32) < v3 then bX12_cutsText_144_178 v1 v3 v4 s0 m else bX12_cutsText_144_146 v1 v3 v4 s0 (0 : Int32) m) = some z) : bX12_cutsText_144_135 v1 v3 v4 s0 m = some z := by
  refine xstV ?_
  show xT 164 2 135 [(0, .ref 144), (1, .int v1), (3, .int v3), (4, .long v4)] [.int s0] m (none, z)
  refine e_istore rfl rfl (xnm_no rfl) ?_
  refine e_iload_n rfl rfl (xnm_no rfl) ?_
  refine e_bipush (x := 8) rfl (by decide) (xnm_no rfl) ?_
  refine e_icmp_gt (t := 178) rfl rfl rfl (xnm_no rfl) h (fun h => ?_) (fun h => ?_)
  · exact xlfV h
  · refine e_iconst (x := 0) rfl (by decide) (xnm_no rfl) ?_
    refine e_istore rfl rfl rfl ?_
    exact xlfV h
set_option maxRecDepth 4000 in
theorem bX12_cutsText_144_178_i (v1 : Int32) (v3 : Int32) (v4 : Int64) (v6 : Int32) (m : xmm) {z : xmm} (h : ((fX12_token_144 v6 v1 (0 : Int32) v4 m).bind fun (w1 : xmm) => bX12_cutsText_144_7 (v1 + v3) w1) = some z) : bX12_cutsText_144_178 v1 v3 v4 v6 m = some z := by
  refine xstV ?_
  show xT 164 2 178 [(0, .ref 144), (1, .int v1), (3, .int v3), (4, .long v4), (6, .int v6)] [] m (none, z)
  refine e_aload_n rfl rfl rfl (xnm_no rfl) ?_
  refine e_iload rfl rfl (xnm_no rfl) ?_
  refine e_iload_n rfl rfl (xnm_no rfl) ?_
  refine e_iconst (x := 0) rfl (by decide) (xnm_no rfl) ?_
  refine e_lload rfl rfl (xnm_no rfl) ?_
  obtain ⟨w1, hw2, h⟩ := xbd_some h
  refine e_cVV (hc := hw2) (rest := []) rfl rfl rfl rfl rfl rfl rfl rfl (xnm_no rfl) ?_
  refine e_iload_n rfl rfl (xnm_no rfl) ?_
  refine e_iload_n rfl rfl (xnm_no rfl) ?_
  refine e_iadd rfl (xnm_no rfl) ?_
  refine e_istore_n rfl rfl (xnm_no rfl) ?_
  refine e_goto (t := 283) rfl rfl (xnm_no rfl) ?_
  refine e_goto (t := 7) rfl rfl rfl ?_
  exact xlfV h
set_option maxRecDepth 4000 in
theorem bX12_cutsText_144_146_i (v1 : Int32) (v3 : Int32) (v4 : Int64) (v6 : Int32) (v7 : Int32) (m : xmm) {z : xmm} (h : (if (4 : Int32) ≤ v7 then bX12_cutsText_144_178 v1 v3 v4 v6 m else xgd (xinb 4 v7) (if (lg_cmp (m.2 151 (v7).toNatClampNeg) v4) = 0 then bX12_cutsText_144_146 v1 v3 v4 ((20 : Int32) + v7) (v7 + (1 : Int32)) m else bX12_cutsText_144_146 v1 v3 v4 v6 (v7 + (1 : Int32)) m)) = some z) : bX12_cutsText_144_146 v1 v3 v4 v6 v7 m = some z := by
  refine xstV ?_
  show xT 164 2 146 [(0, .ref 144), (1, .int v1), (3, .int v3), (4, .long v4), (6, .int v6), (7, .int v7)] [] m (none, z)
  refine e_iload rfl rfl (xnm_no rfl) ?_
  refine e_iconst (x := 4) rfl (by decide) (xnm_no rfl) ?_
  refine e_icmp_ge (t := 178) rfl rfl rfl (xnm_no rfl) h (fun h => ?_) (fun h => ?_)
  · exact xlfV h
  · refine e_aload_n rfl rfl rfl (xnm_no rfl) ?_
    refine e_getR (r := 151) rfl rfl rfl rfl rfl (xnm_no rfl) ?_
    refine e_iload rfl rfl (xnm_no rfl) ?_
    obtain ⟨g1, h⟩ := xgd_some h
    refine e_lald rfl g1 (xnm_no rfl) ?_
    refine e_lload rfl rfl (xnm_no rfl) ?_
    refine e_lcmp rfl (xnm_no rfl) ?_
    refine e_if_ne (t := 172) rfl rfl (xnm_no rfl) (xnm_no rfl) h (fun h => ?_) (fun h => ?_)
    · refine e_iinc (y := 1) rfl rfl rfl (by decide) (xnm_no rfl) ?_
      refine e_goto (t := 146) rfl rfl rfl ?_
      exact xlfV h
    · refine e_bipush (x := 20) rfl (by decide) (xnm_no rfl) ?_
      refine e_iload rfl rfl (xnm_no rfl) ?_
      refine e_iadd rfl (xnm_no rfl) ?_
      refine e_istore rfl rfl (xnm_no rfl) ?_
      refine e_iinc (y := 1) rfl rfl rfl (by decide) (xnm_no rfl) ?_
      refine e_goto (t := 146) rfl rfl rfl ?_
      exact xlfV h
set_option maxRecDepth 4000 in
theorem fX12_is_144_i (v1 : Int32) (m : xmm) {z : Int32 × xmm} (h : (if (m.1 144 12) = 0 then xgd (xinb 403 (m.1 144 11)) (if (m.1 147 ((m.1 144 11)).toNatClampNeg) = v1 then some ((1 : Int32), m) else some ((0 : Int32), m)) else some ((0 : Int32), m)) = some z) : fX12_is_144 v1 m = some z := by
  refine xstI ?_
  show xT 166 0 0 [(0, .ref 144), (1, .int v1)] [] m (some (.int z.1), z.2)
  refine e_aload_n rfl rfl rfl (xnm_no rfl) ?_
  refine e_getI rfl rfl rfl rfl (xnm_no rfl) ?_
  refine e_if_ne (t := 24) rfl rfl (xnm_no rfl) (xnm_no rfl) h (fun h => ?_) (fun h => ?_)
  · refine e_iconst (x := 0) rfl (by decide) (xnm_no rfl) ?_
    cases h
    exact e_retI rfl (by decide)
  · refine e_aload_n rfl rfl rfl (xnm_no rfl) ?_
    refine e_getR (r := 147) rfl rfl rfl rfl rfl (xnm_no rfl) ?_
    refine e_aload_n rfl rfl rfl (xnm_no rfl) ?_
    refine e_getI rfl rfl rfl rfl (xnm_no rfl) ?_
    obtain ⟨g1, h⟩ := xgd_some h
    refine e_iald rfl g1 (xnm_no rfl) ?_
    refine e_iload_n rfl rfl (xnm_no rfl) ?_
    refine e_icmp_ne (t := 24) rfl rfl (xnm_no rfl) (xnm_no rfl) h (fun h => ?_) (fun h => ?_)
    · refine e_iconst (x := 0) rfl (by decide) (xnm_no rfl) ?_
      cases h
      exact e_retI rfl (by decide)
    · refine e_iconst (x := 1) rfl (by decide) (xnm_no rfl) ?_
      refine e_goto (t := 25) rfl rfl (xnm_no rfl) ?_
      cases h
      exact e_retI rfl (by decide)
set_option maxRecDepth 4000 in
theorem fX12_fail_144_i (v1 : Int32) (m : xmm) {z : xmm} (h : (if (m.1 144 12) ≤ 0 then xlt (xwi m 144 12 v1) fun (m1 : xmm) => xgd (xinb 403 (m1.1 144 11)) (xlt (xwi m1 144 13 (m1.1 148 ((m1.1 144 11)).toNatClampNeg)) fun (m3 : xmm) => some m3) else some m) = some z) : fX12_fail_144 v1 m = some z := by
  refine xstV ?_
  show xT 167 0 0 [(0, .ref 144), (1, .int v1)] [] m (none, z)
  refine e_aload_n rfl rfl rfl (xnm_no rfl) ?_
  refine e_getI rfl rfl rfl rfl (xnm_no rfl) ?_
  refine e_if_le (t := 8) rfl rfl (xnm_no rfl) (xnm_no rfl) h (fun h => ?_) (fun h => ?_)
  · refine e_aload_n rfl rfl rfl (xnm_no rfl) ?_
    refine e_iload_n rfl rfl (xnm_no rfl) ?_
    refine e_putI rfl rfl rfl rfl (xnm_no rfl) ?_
    replace h := xlt_b h
    refine e_aload_n rfl rfl rfl (xnm_no rfl) ?_
    refine e_aload_n rfl rfl rfl (xnm_no rfl) ?_
    refine e_getR (r := 148) rfl rfl rfl rfl rfl (xnm_no rfl) ?_
    refine e_aload_n rfl rfl rfl (xnm_no rfl) ?_
    refine e_getI rfl rfl rfl rfl (xnm_no rfl) ?_
    obtain ⟨g2, h⟩ := xgd_some h
    refine e_iald rfl g2 (xnm_no rfl) ?_
    refine e_putI rfl rfl rfl rfl (xnm_no rfl) ?_
    replace h := xlt_b h
    cases h
    exact e_retV rfl rfl
  · cases h
    exact e_retV rfl rfl
set_option maxRecDepth 4000 in
theorem fX12_passes_144_i (m : xmm) {z : xmm} (h : (if (m.1 144 11) = (400 : Int32) then (fX12_fail_144 (2 : Int32) m).bind fun (w2 : xmm) => some w2 else xlt (xwi m 144 11 ((m.1 144 11) + (1 : Int32))) fun (m1 : xmm) => some m1) = some z) : fX12_passes_144 m = some z := by
  refine xstV ?_
  show xT 169 1 0 [(0, .ref 144)] [] m (none, z)
  refine e_aload_n rfl rfl rfl (xnm_no rfl) ?_
  refine e_getI rfl rfl rfl rfl (xnm_no rfl) ?_
  refine e_sipush (x := 400) rfl (by decide) (xnm_no rfl) ?_
  refine e_icmp_ne (t := 18) rfl rfl (xnm_no rfl) (xnm_no rfl) h (fun h => ?_) (fun h => ?_)
  · refine e_aload_n rfl rfl rfl (xnm_no rfl) ?_
    refine e_dup rfl rfl (xnm_no rfl) ?_
    refine e_getI rfl rfl rfl rfl (xnm_no rfl) ?_
    refine e_iconst (x := 1) rfl (by decide) (xnm_no rfl) ?_
    refine e_iadd rfl (xnm_no rfl) ?_
    refine e_putI rfl rfl rfl rfl (xnm_no rfl) ?_
    replace h := xlt_b h
    cases h
    exact e_retV rfl rfl
  · refine e_aload_n rfl rfl rfl (xnm_no rfl) ?_
    refine e_iconst (x := 2) rfl (by decide) (xnm_no rfl) ?_
    obtain ⟨w2, hw3, h⟩ := xbd_some h
    refine e_cVV (hc := hw3) (rest := []) rfl rfl rfl rfl rfl rfl rfl rfl (xnm_no rfl) ?_
    refine e_goto (t := 28) rfl rfl (xnm_no rfl) ?_
    cases h
    exact e_retV rfl rfl
set_option maxRecDepth 4000 in
theorem fX12_must_144_i (v1 : Int32) (m : xmm) {z : xmm} (h : ((fX12_is_144 v1 m).bind fun (w1 : Int32 × xmm) => if w1.1 = 0 then (fX12_fail_144 (1 : Int32) w1.2).bind fun (w3 : xmm) => some w3 else (fX12_passes_144 w1.2).bind fun (w5 : xmm) => some w5) = some z) : fX12_must_144 v1 m = some z := by
  refine xstV ?_
  show xT 170 2 0 [(0, .ref 144), (1, .int v1)] [] m (none, z)
  refine e_aload_n rfl rfl rfl (xnm_no rfl) ?_
  refine e_iload_n rfl rfl (xnm_no rfl) ?_
  obtain ⟨w1, hw2, h⟩ := xbd_some h
  refine e_cIV (hc := hw2) (rest := []) rfl rfl rfl rfl rfl rfl rfl rfl (xnm_no rfl) ?_
  refine e_if_eq (t := 15) rfl rfl (xnm_no rfl) (xnm_no rfl) h (fun h => ?_) (fun h => ?_)
  · refine e_aload_n rfl rfl rfl (xnm_no rfl) ?_
    refine e_iconst (x := 1) rfl (by decide) (xnm_no rfl) ?_
    obtain ⟨w3, hw4, h⟩ := xbd_some h
    refine e_cVV (hc := hw4) (rest := []) rfl rfl rfl rfl rfl rfl rfl rfl (xnm_no rfl) ?_
    cases h
    exact e_retV rfl rfl
  · refine e_aload_n rfl rfl rfl (xnm_no rfl) ?_
    obtain ⟨w5, hw6, h⟩ := xbd_some h
    refine e_cVV (hc := hw6) (rest := []) rfl rfl rfl rfl rfl rfl rfl rfl (xnm_no rfl) ?_
    refine e_goto (t := 20) rfl rfl (xnm_no rfl) ?_
    cases h
    exact e_retV rfl rfl
set_option maxRecDepth 4000 in
theorem fX12_tellLine_144_i (m : xmm) {z : xmm} (h : ((fX12_is_144 (23 : Int32) m).bind fun (w1 : Int32 × xmm) => if w1.1 = 0 then (fX12_is_144 (21 : Int32) w1.2).bind fun (w3 : Int32 × xmm) => if w3.1 = 0 then (fX12_is_144 (22 : Int32) w3.2).bind fun (w5 : Int32 × xmm) => if w5.1 = 0 then (fX12_fail_144 (1 : Int32) w5.2).bind fun (w7 : xmm) => (fX12_must_144 (4 : Int32) w7).bind fun (w9 : xmm) => some w9 else bX12_tellLine_144_51 w5.2 else bX12_tellLine_144_51 w3.2 else (fX12_passes_144 w1.2).bind fun (w11 : xmm) => (fX12_must_144 (2 : Int32) w11).bind fun (w13 : xmm) => bX12_tellLine_144_18 w13) = some z) : fX12_tellLine_144 m = some z := by
  refine xstV ?_
  show xT 173 3 0 [(0, .ref 144)] [] m (none, z)
  refine e_aload_n rfl rfl rfl (xnm_no rfl) ?_
  refine e_bipush (x := 23) rfl (by decide) (xnm_no rfl) ?_
  obtain ⟨w1, hw2, h⟩ := xbd_some h
  refine e_cIV (hc := hw2) (rest := []) rfl rfl rfl rfl rfl rfl rfl rfl (xnm_no rfl) ?_
  refine e_if_eq (t := 33) rfl rfl (xnm_no rfl) (xnm_no rfl) h (fun h => ?_) (fun h => ?_)
  · refine e_aload_n rfl rfl rfl (xnm_no rfl) ?_
    refine e_bipush (x := 21) rfl (by decide) (xnm_no rfl) ?_
    obtain ⟨w3, hw4, h⟩ := xbd_some h
    refine e_cIV (hc := hw4) (rest := []) rfl rfl rfl rfl rfl rfl rfl rfl (xnm_no rfl) ?_
    refine e_if_ne (t := 51) rfl rfl rfl (xnm_no rfl) h (fun h => ?_) (fun h => ?_)
    · exact xlfV h
    · refine e_aload_n rfl rfl rfl (xnm_no rfl) ?_
      refine e_bipush (x := 22) rfl (by decide) (xnm_no rfl) ?_
      obtain ⟨w5, hw6, h⟩ := xbd_some h
      refine e_cIV (hc := hw6) (rest := []) rfl rfl rfl rfl rfl rfl rfl rfl (xnm_no rfl) ?_
      refine e_if_eq (t := 80) rfl rfl (xnm_no rfl) rfl h (fun h => ?_) (fun h => ?_)
      · refine e_aload_n rfl rfl rfl (xnm_no rfl) ?_
        refine e_iconst (x := 1) rfl (by decide) (xnm_no rfl) ?_
        obtain ⟨w7, hw8, h⟩ := xbd_some h
        refine e_cVV (hc := hw8) (rest := []) rfl rfl rfl rfl rfl rfl rfl rfl (xnm_no rfl) ?_
        refine e_aload_n rfl rfl rfl (xnm_no rfl) ?_
        refine e_iconst (x := 4) rfl (by decide) (xnm_no rfl) ?_
        obtain ⟨w9, hw10, h⟩ := xbd_some h
        refine e_cVV (hc := hw10) (rest := []) rfl rfl rfl rfl rfl rfl rfl rfl (xnm_no rfl) ?_
        cases h
        exact e_retV rfl rfl
      · exact xlfV h
  · refine e_aload_n rfl rfl rfl (xnm_no rfl) ?_
    obtain ⟨w11, hw12, h⟩ := xbd_some h
    refine e_cVV (hc := hw12) (rest := []) rfl rfl rfl rfl rfl rfl rfl rfl (xnm_no rfl) ?_
    refine e_aload_n rfl rfl rfl (xnm_no rfl) ?_
    refine e_iconst (x := 2) rfl (by decide) (xnm_no rfl) ?_
    obtain ⟨w13, hw14, h⟩ := xbd_some h
    refine e_cVV (hc := hw14) (rest := []) rfl rfl rfl rfl rfl rfl rfl rfl rfl ?_
    exact xlfV h
set_option maxRecDepth 4000 in
theorem bX12_tellLine_144_51_i (m : xmm) {z : xmm} (h : ((fX12_passes_144 m).bind fun (w1 : xmm) => (fX12_must_144 (1 : Int32) w1).bind fun (w3 : xmm) => (fX12_must_144 (1 : Int32) w3).bind fun (w5 : xmm) => bX12_tellLine_144_65 w5) = some z) : bX12_tellLine_144_51 m = some z := by
  refine xstV ?_
  show xT 173 3 51 [(0, .ref 144)] [] m (none, z)
  refine e_aload_n rfl rfl rfl (xnm_no rfl) ?_
  obtain ⟨w1, hw2, h⟩ := xbd_some h
  refine e_cVV (hc := hw2) (rest := []) rfl rfl rfl rfl rfl rfl rfl rfl (xnm_no rfl) ?_
  refine e_aload_n rfl rfl rfl (xnm_no rfl) ?_
  refine e_iconst (x := 1) rfl (by decide) (xnm_no rfl) ?_
  obtain ⟨w3, hw4, h⟩ := xbd_some h
  refine e_cVV (hc := hw4) (rest := []) rfl rfl rfl rfl rfl rfl rfl rfl (xnm_no rfl) ?_
  refine e_aload_n rfl rfl rfl (xnm_no rfl) ?_
  refine e_iconst (x := 1) rfl (by decide) (xnm_no rfl) ?_
  obtain ⟨w5, hw6, h⟩ := xbd_some h
  refine e_cVV (hc := hw6) (rest := []) rfl rfl rfl rfl rfl rfl rfl rfl rfl ?_
  exact xlfV h
set_option maxRecDepth 4000 in
theorem bX12_tellLine_144_18_i (m : xmm) {z : xmm} (h : ((fX12_is_144 (2 : Int32) m).bind fun (w1 : Int32 × xmm) => if w1.1 = 0 then (fX12_must_144 (4 : Int32) w1.2).bind fun (w3 : xmm) => some w3 else (fX12_passes_144 w1.2).bind fun (w5 : xmm) => bX12_tellLine_144_18 w5) = some z) : bX12_tellLine_144_18 m = some z := by
  refine xstV ?_
  show xT 173 3 18 [(0, .ref 144)] [] m (none, z)
  refine e_aload_n rfl rfl rfl (xnm_no rfl) ?_
  refine e_iconst (x := 2) rfl (by decide) (xnm_no rfl) ?_
  obtain ⟨w1, hw2, h⟩ := xbd_some h
  refine e_cIV (hc := hw2) (rest := []) rfl rfl rfl rfl rfl rfl rfl rfl (xnm_no rfl) ?_
  refine e_if_eq (t := 85) rfl rfl (xnm_no rfl) (xnm_no rfl) h (fun h => ?_) (fun h => ?_)
  · refine e_aload_n rfl rfl rfl (xnm_no rfl) ?_
    refine e_iconst (x := 4) rfl (by decide) (xnm_no rfl) ?_
    obtain ⟨w3, hw4, h⟩ := xbd_some h
    refine e_cVV (hc := hw4) (rest := []) rfl rfl rfl rfl rfl rfl rfl rfl (xnm_no rfl) ?_
    cases h
    exact e_retV rfl rfl
  · refine e_aload_n rfl rfl rfl (xnm_no rfl) ?_
    obtain ⟨w5, hw6, h⟩ := xbd_some h
    refine e_cVV (hc := hw6) (rest := []) rfl rfl rfl rfl rfl rfl rfl rfl (xnm_no rfl) ?_
    refine e_goto (t := 18) rfl rfl rfl ?_
    exact xlfV h
set_option maxRecDepth 4000 in
theorem bX12_tellLine_144_65_i (m : xmm) {z : xmm} (h : ((fX12_is_144 (1 : Int32) m).bind fun (w1 : Int32 × xmm) => if w1.1 = 0 then (fX12_must_144 (4 : Int32) w1.2).bind fun (w3 : xmm) => some w3 else (fX12_passes_144 w1.2).bind fun (w5 : xmm) => bX12_tellLine_144_65 w5) = some z) : bX12_tellLine_144_65 m = some z := by
  refine xstV ?_
  show xT 173 3 65 [(0, .ref 144)] [] m (none, z)
  refine e_aload_n rfl rfl rfl (xnm_no rfl) ?_
  refine e_iconst (x := 1) rfl (by decide) (xnm_no rfl) ?_
  obtain ⟨w1, hw2, h⟩ := xbd_some h
  refine e_cIV (hc := hw2) (rest := []) rfl rfl rfl rfl rfl rfl rfl rfl (xnm_no rfl) ?_
  refine e_if_eq (t := 85) rfl rfl (xnm_no rfl) (xnm_no rfl) h (fun h => ?_) (fun h => ?_)
  · refine e_aload_n rfl rfl rfl (xnm_no rfl) ?_
    refine e_iconst (x := 4) rfl (by decide) (xnm_no rfl) ?_
    obtain ⟨w3, hw4, h⟩ := xbd_some h
    refine e_cVV (hc := hw4) (rest := []) rfl rfl rfl rfl rfl rfl rfl rfl (xnm_no rfl) ?_
    cases h
    exact e_retV rfl rfl
  · refine e_aload_n rfl rfl rfl (xnm_no rfl) ?_
    obtain ⟨w5, hw6, h⟩ := xbd_some h
    refine e_cVV (hc := hw6) (rest := []) rfl rfl rfl rfl rfl rfl rfl rfl (xnm_no rfl) ?_
    refine e_goto (t := 65) rfl rfl rfl ?_
    exact xlfV h
set_option maxRecDepth 4000 in
theorem fX12_postAt_144_i (v1 : Int64) (m : xmm) {z : Int32 × xmm} (h : (bX12_postAt_144_2 v1 (0 : Int32) m) = some z) : fX12_postAt_144 v1 m = some z := by
  refine xstI ?_
  show xT 174 0 0 [(0, .ref 144), (1, .long v1)] [] m (some (.int z.1), z.2)
  refine e_iconst (x := 0) rfl (by decide) (xnm_no rfl) ?_
  refine e_istore_n rfl rfl rfl ?_
  exact xlfI h
set_option maxRecDepth 4000 in
theorem bX12_postAt_144_2_i (v1 : Int64) (v3 : Int32) (m : xmm) {z : Int32 × xmm} (h : (if (m.1 144 20) ≤ v3 then some ((-1 : Int32), m) else xgd (xinb 8 v3) (if (lg_cmp (m.2 154 (v3).toNatClampNeg) v1) = 0 then some (v3, m) else bX12_postAt_144_2 v1 (v3 + (1 : Int32)) m)) = some z) : bX12_postAt_144_2 v1 v3 m = some z := by
  refine xstI ?_
  show xT 174 0 2 [(0, .ref 144), (1, .long v1), (3, .int v3)] [] m (some (.int z.1), z.2)
  refine e_iload_n rfl rfl (xnm_no rfl) ?_
  refine e_aload_n rfl rfl rfl (xnm_no rfl) ?_
  refine e_getI rfl rfl rfl rfl (xnm_no rfl) ?_
  refine e_icmp_ge (t := 29) rfl rfl (xnm_no rfl) (xnm_no rfl) h (fun h => ?_) (fun h => ?_)
  · refine e_iconst (x := -1) rfl (by decide) (xnm_no rfl) ?_
    cases h
    exact e_retI rfl rfl
  · refine e_aload_n rfl rfl rfl (xnm_no rfl) ?_
    refine e_getR (r := 154) rfl rfl rfl rfl rfl (xnm_no rfl) ?_
    refine e_iload_n rfl rfl (xnm_no rfl) ?_
    obtain ⟨g1, h⟩ := xgd_some h
    refine e_lald rfl g1 (xnm_no rfl) ?_
    refine e_lload_n rfl rfl (xnm_no rfl) ?_
    refine e_lcmp rfl (xnm_no rfl) ?_
    refine e_if_ne (t := 23) rfl rfl (xnm_no rfl) (xnm_no rfl) h (fun h => ?_) (fun h => ?_)
    · refine e_iinc (y := 1) rfl rfl rfl (by decide) (xnm_no rfl) ?_
      refine e_goto (t := 2) rfl rfl rfl ?_
      exact xlfI h
    · refine e_iload_n rfl rfl (xnm_no rfl) ?_
      cases h
      exact e_retI rfl rfl
set_option maxRecDepth 4000 in
theorem fX12_wrong_144_i (v1 : Int32) (v2 : Int32) (m : xmm) {z : xmm} (h : (xgd (xinb 403 v2) (if 0 < (m.1 144 12) then some m else if (m.1 144 14) = 0 then bX12_wrong_144_46 v1 (m.1 148 (v2).toNatClampNeg) m else if (m.1 144 15) < (m.1 148 (v2).toNatClampNeg) then some m else if (m.1 148 (v2).toNatClampNeg) = (m.1 144 15) then if v1 < (m.1 144 14) then bX12_wrong_144_46 v1 (m.1 148 (v2).toNatClampNeg) m else some m else bX12_wrong_144_46 v1 (m.1 148 (v2).toNatClampNeg) m)) = some z) : fX12_wrong_144 v1 v2 m = some z := by
  refine xstV ?_
  show xT 168 0 0 [(0, .ref 144), (1, .int v1), (2, .int v2)] [] m (none, z)
  refine e_aload_n rfl rfl rfl (xnm_no rfl) ?_
  refine e_getR (r := 148) rfl rfl rfl rfl rfl (xnm_no rfl) ?_
  refine e_iload_n rfl rfl (xnm_no rfl) ?_
  obtain ⟨g1, h⟩ := xgd_some h
  refine e_iald rfl g1 (xnm_no rfl) ?_
  refine e_istore_n rfl rfl (xnm_no rfl) ?_
  refine e_aload_n rfl rfl rfl (xnm_no rfl) ?_
  refine e_getI rfl rfl rfl rfl (xnm_no rfl) ?_
  refine e_if_gt (t := 45) rfl rfl (xnm_no rfl) (xnm_no rfl) h (fun h => ?_) (fun h => ?_)
  · cases h
    exact e_retV rfl rfl
  · refine e_aload_n rfl rfl rfl (xnm_no rfl) ?_
    refine e_getI rfl rfl rfl rfl (xnm_no rfl) ?_
    refine e_if_eq (t := 46) rfl rfl rfl (xnm_no rfl) h (fun h => ?_) (fun h => ?_)
    · exact xlfV h
    · refine e_iload_n rfl rfl (xnm_no rfl) ?_
      refine e_aload_n rfl rfl rfl (xnm_no rfl) ?_
      refine e_getI rfl rfl rfl rfl (xnm_no rfl) ?_
      refine e_icmp_gt (t := 45) rfl rfl (xnm_no rfl) (xnm_no rfl) h (fun h => ?_) (fun h => ?_)
      · cases h
        exact e_retV rfl rfl
      · refine e_iload_n rfl rfl (xnm_no rfl) ?_
        refine e_aload_n rfl rfl rfl (xnm_no rfl) ?_
        refine e_getI rfl rfl rfl rfl (xnm_no rfl) ?_
        refine e_icmp_ne (t := 46) rfl rfl rfl (xnm_no rfl) h (fun h => ?_) (fun h => ?_)
        · exact xlfV h
        · refine e_iload_n rfl rfl (xnm_no rfl) ?_
          refine e_aload_n rfl rfl rfl (xnm_no rfl) ?_
          refine e_getI rfl rfl rfl rfl (xnm_no rfl) ?_
          refine e_icmp_lt (t := 46) rfl rfl rfl (xnm_no rfl) h (fun h => ?_) (fun h => ?_)
          · exact xlfV h
          · cases h
            exact e_retV rfl rfl
set_option maxRecDepth 4000 in
theorem bX12_wrong_144_46_i (v1 : Int32) (v3 : Int32) (m : xmm) {z : xmm} (h : (xlt (xwi m 144 14 v1) fun (m1 : xmm) => xlt (xwi m1 144 15 v3) fun (m2 : xmm) => some m2) = some z) : bX12_wrong_144_46 v1 v3 m = some z := by
  refine xstV ?_
  show xT 168 0 46 [(0, .ref 144), (1, .int v1), (3, .int v3)] [] m (none, z)
  refine e_aload_n rfl rfl rfl (xnm_no rfl) ?_
  refine e_iload_n rfl rfl (xnm_no rfl) ?_
  refine e_putI rfl rfl rfl rfl (xnm_no rfl) ?_
  replace h := xlt_b h
  refine e_aload_n rfl rfl rfl (xnm_no rfl) ?_
  refine e_iload_n rfl rfl (xnm_no rfl) ?_
  refine e_putI rfl rfl rfl rfl (xnm_no rfl) ?_
  replace h := xlt_b h
  cases h
  exact e_retV rfl rfl
set_option maxRecDepth 4000 in
theorem fX12_joins_i (v0 : Nat) (v1 : Int32) (v2 : Int32) (m : xmm) {z : xmm} (h : (if v1 < 0 then some m else if v2 < 0 then some m else if v1 = v2 then some m else xgd (!(Nat.beq v0 1999)) (xgd (xia 1 v0 v1) (xlt (xwi m v0 (v1).toNatClampNeg ((m.1 v0 (v1).toNatClampNeg) ||| ((1 : Int32) <<< (v2 &&& 31)))) fun (m3 : xmm) => xgd (xia 1 v0 v2) (xlt (xwi m3 v0 (v2).toNatClampNeg ((m3.1 v0 (v2).toNatClampNeg) ||| ((1 : Int32) <<< (v1 &&& 31)))) fun (m5 : xmm) => some m5)))) = some z) : fX12_joins v0 v1 v2 m = some z := by
  refine xstV ?_
  show xT 176 0 0 [(0, .ref v0), (1, .int v1), (2, .int v2)] [] m (none, z)
  refine e_iload_n rfl rfl (xnm_no rfl) ?_
  refine e_if_lt (t := 13) rfl rfl (xnm_no rfl) (xnm_no rfl) h (fun h => ?_) (fun h => ?_)
  · cases h
    exact e_retV rfl rfl
  · refine e_iload_n rfl rfl (xnm_no rfl) ?_
    refine e_if_lt (t := 13) rfl rfl (xnm_no rfl) (xnm_no rfl) h (fun h => ?_) (fun h => ?_)
    · cases h
      exact e_retV rfl rfl
    · refine e_iload_n rfl rfl (xnm_no rfl) ?_
      refine e_iload_n rfl rfl (xnm_no rfl) ?_
      refine e_icmp_ne (t := 14) rfl rfl (xnm_no rfl) (xnm_no rfl) h (fun h => ?_) (fun h => ?_)
      · obtain ⟨g1, h⟩ := xgd_some h
        refine e_aload_n rfl rfl (xnb g1) (xnm_no rfl) ?_
        refine e_iload_n rfl rfl (xnm_no rfl) ?_
        refine e_dup2 rfl rfl rfl (xnm_no rfl) ?_
        obtain ⟨g2, h⟩ := xgd_some h
        refine e_iald rfl g2 (xnm_no rfl) ?_
        refine e_iconst (x := 1) rfl (by decide) (xnm_no rfl) ?_
        refine e_iload_n rfl rfl (xnm_no rfl) ?_
        refine e_ishl rfl (xnm_no rfl) ?_
        refine e_ior rfl (xnm_no rfl) ?_
        refine e_iast rfl g2 (xnm_no rfl) ?_
        replace h := xlt_b h
        refine e_aload_n rfl rfl (xnb g1) (xnm_no rfl) ?_
        refine e_iload_n rfl rfl (xnm_no rfl) ?_
        refine e_dup2 rfl rfl rfl (xnm_no rfl) ?_
        obtain ⟨g4, h⟩ := xgd_some h
        refine e_iald rfl g4 (xnm_no rfl) ?_
        refine e_iconst (x := 1) rfl (by decide) (xnm_no rfl) ?_
        refine e_iload_n rfl rfl (xnm_no rfl) ?_
        refine e_ishl rfl (xnm_no rfl) ?_
        refine e_ior rfl (xnm_no rfl) ?_
        refine e_iast rfl g4 (xnm_no rfl) ?_
        replace h := xlt_b h
        cases h
        exact e_retV rfl rfl
      · cases h
        exact e_retV rfl rfl
set_option maxRecDepth 4000 in
theorem fX12_meansNames_144_i (v1 : Int32) (m : xmm) {z : xmm} (h : (bX12_meansNames_144_4 v1 (v1 + (1 : Int32)) m) = some z) : fX12_meansNames_144 v1 m = some z := by
  refine xstV ?_
  show xT 177 1 0 [(0, .ref 144), (1, .int v1)] [] m (none, z)
  refine e_iload_n rfl rfl (xnm_no rfl) ?_
  refine e_iconst (x := 1) rfl (by decide) (xnm_no rfl) ?_
  refine e_iadd rfl (xnm_no rfl) ?_
  refine e_istore_n rfl rfl rfl ?_
  exact xlfV h
set_option maxRecDepth 4000 in
theorem bX12_meansNames_144_4_i (v1 : Int32) (v2 : Int32) (m : xmm) {z : xmm} (h : (xgd (xinb 403 v2) (if (m.1 147 (v2).toNatClampNeg) = (1 : Int32) then (fX12_postAt_144 (m.2 150 (v2).toNatClampNeg) m).bind fun (w2 : Int32 × xmm) => if 0 ≤ w2.1 then bX12_meansNames_144_35 v1 v2 w2.1 w2.2 else (fX12_wrong_144 (4 : Int32) v2 w2.2).bind fun (w4 : xmm) => bX12_meansNames_144_35 v1 v2 w2.1 w4 else some m)) = some z) : bX12_meansNames_144_4 v1 v2 m = some z := by
  refine xstV ?_
  show xT 177 1 4 [(0, .ref 144), (1, .int v1), (2, .int v2)] [] m (none, z)
  refine e_aload_n rfl rfl rfl (xnm_no rfl) ?_
  refine e_getR (r := 147) rfl rfl rfl rfl rfl (xnm_no rfl) ?_
  refine e_iload_n rfl rfl (xnm_no rfl) ?_
  obtain ⟨g1, h⟩ := xgd_some h
  refine e_iald rfl g1 (xnm_no rfl) ?_
  refine e_iconst (x := 1) rfl (by decide) (xnm_no rfl) ?_
  refine e_icmp_ne (t := 100) rfl rfl (xnm_no rfl) (xnm_no rfl) h (fun h => ?_) (fun h => ?_)
  · cases h
    exact e_retV rfl rfl
  · refine e_aload_n rfl rfl rfl (xnm_no rfl) ?_
    refine e_aload_n rfl rfl rfl (xnm_no rfl) ?_
    refine e_getR (r := 150) rfl rfl rfl rfl rfl (xnm_no rfl) ?_
    refine e_iload_n rfl rfl (xnm_no rfl) ?_
    refine e_lald rfl g1 (xnm_no rfl) ?_
    obtain ⟨w2, hw3, h⟩ := xbd_some h
    refine e_cIV (hc := hw3) (rest := []) rfl rfl rfl rfl rfl rfl rfl rfl (xnm_no rfl) ?_
    refine e_istore_n rfl rfl (xnm_no rfl) ?_
    refine e_iload_n rfl rfl (xnm_no rfl) ?_
    refine e_if_ge (t := 35) rfl rfl rfl (xnm_no rfl) h (fun h => ?_) (fun h => ?_)
    · exact xlfV h
    · refine e_aload_n rfl rfl rfl (xnm_no rfl) ?_
      refine e_iconst (x := 4) rfl (by decide) (xnm_no rfl) ?_
      refine e_iload_n rfl rfl (xnm_no rfl) ?_
      obtain ⟨w4, hw5, h⟩ := xbd_some h
      refine e_cVV (hc := hw5) (rest := []) rfl rfl rfl rfl rfl rfl rfl rfl rfl ?_
      exact xlfV h
set_option maxRecDepth 4000 in
theorem bX12_meansNames_144_35_i (v1 : Int32) (v2 : Int32) (v3 : Int32) (m : xmm) {z : xmm} (h : (xgd (xinb 403 v1) (if (m.1 147 (v1).toNatClampNeg) = (22 : Int32) then bX12_meansNames_144_57 v1 v2 v3 (v1 + (1 : Int32)) m else bX12_meansNames_144_57 v1 v2 v3 (v2 - (1 : Int32)) m)) = some z) : bX12_meansNames_144_35 v1 v2 v3 m = some z := by
  refine xstV ?_
  show xT 177 1 35 [(0, .ref 144), (1, .int v1), (2, .int v2), (3, .int v3)] [] m (none, z)
  refine e_aload_n rfl rfl rfl (xnm_no rfl) ?_
  refine e_getR (r := 147) rfl rfl rfl rfl rfl (xnm_no rfl) ?_
  refine e_iload_n rfl rfl (xnm_no rfl) ?_
  obtain ⟨g1, h⟩ := xgd_some h
  refine e_iald rfl g1 (xnm_no rfl) ?_
  refine e_bipush (x := 22) rfl (by decide) (xnm_no rfl) ?_
  refine e_icmp_ne (t := 52) rfl rfl (xnm_no rfl) (xnm_no rfl) h (fun h => ?_) (fun h => ?_)
  · refine e_iload_n rfl rfl (xnm_no rfl) ?_
    refine e_iconst (x := 1) rfl (by decide) (xnm_no rfl) ?_
    refine e_isub rfl (xnm_no rfl) ?_
    refine e_istore rfl rfl rfl ?_
    exact xlfV h
  · refine e_iload_n rfl rfl (xnm_no rfl) ?_
    refine e_iconst (x := 1) rfl (by decide) (xnm_no rfl) ?_
    refine e_iadd rfl (xnm_no rfl) ?_
    refine e_goto (t := 55) rfl rfl (xnm_no rfl) ?_
    refine e_istore rfl rfl rfl ?_
    exact xlfV h
set_option maxRecDepth 4000 in
theorem bX12_meansNames_144_57_i (v1 : Int32) (v2 : Int32) (v3 : Int32) (v4 : Int32) (m : xmm) {z : xmm} (h : (if v2 ≤ v4 then bX12_meansNames_144_4 v1 (v2 + (1 : Int32)) m else if v4 ≤ v1 then bX12_meansNames_144_57 v1 v2 v3 (v4 + (1 : Int32)) m else xgd (xinb 403 v4) ((fX12_postAt_144 (m.2 150 (v4).toNatClampNeg) m).bind fun (w2 : Int32 × xmm) => (fX12_joins 153 w2.1 v3 w2.2).bind fun (w4 : xmm) => bX12_meansNames_144_57 v1 v2 v3 (v4 + (1 : Int32)) w4)) = some z) : bX12_meansNames_144_57 v1 v2 v3 v4 m = some z := by
  refine xstV ?_
  show xT 177 1 57 [(0, .ref 144), (1, .int v1), (2, .int v2), (3, .int v3), (4, .int v4)] [] m (none, z)
  refine e_iload rfl rfl (xnm_no rfl) ?_
  refine e_iload_n rfl rfl (xnm_no rfl) ?_
  refine e_icmp_ge (t := 94) rfl rfl (xnm_no rfl) (xnm_no rfl) h (fun h => ?_) (fun h => ?_)
  · refine e_iinc (y := 1) rfl rfl rfl (by decide) (xnm_no rfl) ?_
    refine e_goto (t := 4) rfl rfl rfl ?_
    exact xlfV h
  · refine e_iload rfl rfl (xnm_no rfl) ?_
    refine e_iload_n rfl rfl (xnm_no rfl) ?_
    refine e_icmp_le (t := 88) rfl rfl (xnm_no rfl) (xnm_no rfl) h (fun h => ?_) (fun h => ?_)
    · refine e_iinc (y := 1) rfl rfl rfl (by decide) (xnm_no rfl) ?_
      refine e_goto (t := 57) rfl rfl rfl ?_
      exact xlfV h
    · refine e_aload_n rfl rfl rfl (xnm_no rfl) ?_
      refine e_getR (r := 153) rfl rfl rfl rfl rfl (xnm_no rfl) ?_
      refine e_aload_n rfl rfl rfl (xnm_no rfl) ?_
      refine e_aload_n rfl rfl rfl (xnm_no rfl) ?_
      refine e_getR (r := 150) rfl rfl rfl rfl rfl (xnm_no rfl) ?_
      refine e_iload rfl rfl (xnm_no rfl) ?_
      obtain ⟨g1, h⟩ := xgd_some h
      refine e_lald rfl g1 (xnm_no rfl) ?_
      obtain ⟨w2, hw3, h⟩ := xbd_some h
      refine e_cIV (hc := hw3) (rest := [.ref 153]) rfl rfl rfl rfl rfl rfl rfl rfl (xnm_no rfl) ?_
      refine e_iload_n rfl rfl (xnm_no rfl) ?_
      obtain ⟨w4, hw5, h⟩ := xbd_some h
      refine e_cVS (hc := hw5) (rest := []) rfl rfl rfl rfl rfl rfl rfl rfl (xnm_no rfl) ?_
      refine e_iinc (y := 1) rfl rfl rfl (by decide) (xnm_no rfl) ?_
      refine e_goto (t := 57) rfl rfl rfl ?_
      exact xlfV h
set_option maxRecDepth 4000 in
theorem fX12_isToldAhead_144_i (v1 : Int32) (v2 : Int32) (m : xmm) {z : Int32 × xmm} (h : (bX12_isToldAhead_144_4 v2 (v1 + (1 : Int32)) m) = some z) : fX12_isToldAhead_144 v1 v2 m = some z := by
  refine xstI ?_
  show xT 179 0 0 [(0, .ref 144), (1, .int v1), (2, .int v2)] [] m (some (.int z.1), z.2)
  refine e_iload_n rfl rfl (xnm_no rfl) ?_
  refine e_iconst (x := 1) rfl (by decide) (xnm_no rfl) ?_
  refine e_iadd rfl (xnm_no rfl) ?_
  refine e_istore_n rfl rfl rfl ?_
  exact xlfI h
set_option maxRecDepth 4000 in
theorem bX12_isToldAhead_144_4_i (v2 : Int32) (v3 : Int32) (m : xmm) {z : Int32 × xmm} (h : (if v2 ≤ v3 then some ((0 : Int32), m) else xgd (xinb 403 v3) (xgd (xinb 403 v2) (if (m.1 149 (v3).toNatClampNeg) = (m.1 149 (v2).toNatClampNeg) then some ((1 : Int32), m) else bX12_isToldAhead_144_4 v2 (v3 + (1 : Int32)) m))) = some z) : bX12_isToldAhead_144_4 v2 v3 m = some z := by
  refine xstI ?_
  show xT 179 0 4 [(0, .ref 144), (2, .int v2), (3, .int v3)] [] m (some (.int z.1), z.2)
  refine e_iload_n rfl rfl (xnm_no rfl) ?_
  refine e_iload_n rfl rfl (xnm_no rfl) ?_
  refine e_icmp_ge (t := 32) rfl rfl (xnm_no rfl) (xnm_no rfl) h (fun h => ?_) (fun h => ?_)
  · refine e_iconst (x := 0) rfl (by decide) (xnm_no rfl) ?_
    cases h
    exact e_retI rfl (by decide)
  · refine e_aload_n rfl rfl rfl (xnm_no rfl) ?_
    refine e_getR (r := 149) rfl rfl rfl rfl rfl (xnm_no rfl) ?_
    refine e_iload_n rfl rfl (xnm_no rfl) ?_
    obtain ⟨g1, h⟩ := xgd_some h
    refine e_iald rfl g1 (xnm_no rfl) ?_
    refine e_aload_n rfl rfl rfl (xnm_no rfl) ?_
    refine e_getR (r := 149) rfl rfl rfl rfl rfl (xnm_no rfl) ?_
    refine e_iload_n rfl rfl (xnm_no rfl) ?_
    obtain ⟨g2, h⟩ := xgd_some h
    refine e_iald rfl g2 (xnm_no rfl) ?_
    refine e_icmp_ne (t := 26) rfl rfl (xnm_no rfl) (xnm_no rfl) h (fun h => ?_) (fun h => ?_)
    · refine e_iinc (y := 1) rfl rfl rfl (by decide) (xnm_no rfl) ?_
      refine e_goto (t := 4) rfl rfl rfl ?_
      exact xlfI h
    · refine e_iconst (x := 1) rfl (by decide) (xnm_no rfl) ?_
      cases h
      exact e_retI rfl (by decide)
set_option maxRecDepth 4000 in
theorem fX12_meansCross_144_i (v1 : Int32) (m : xmm) {z : xmm} (h : (bX12_meansCross_144_12 v1 (0 : Int32) (0 : Int32) (v1 + (1 : Int32)) m) = some z) : fX12_meansCross_144 v1 m = some z := by
  refine xstV ?_
  show xT 178 1 0 [(0, .ref 144), (1, .int v1)] [] m (none, z)
  refine e_iconst (x := 0) rfl (by decide) (xnm_no rfl) ?_
  refine e_istore_n rfl rfl (xnm_no rfl) ?_
  refine e_iconst (x := 0) rfl (by decide) (xnm_no rfl) ?_
  refine e_istore_n rfl rfl (xnm_no rfl) ?_
  refine e_iconst (x := 0) rfl (by decide) (xnm_no rfl) ?_
  refine e_istore rfl rfl (xnm_no rfl) ?_
  refine e_iload_n rfl rfl (xnm_no rfl) ?_
  refine e_iconst (x := 1) rfl (by decide) (xnm_no rfl) ?_
  refine e_iadd rfl (xnm_no rfl) ?_
  refine e_istore rfl rfl rfl ?_
  exact xlfV h
set_option maxRecDepth 4000 in
theorem bX12_meansCross_144_12_i (v1 : Int32) (v2 : Int32) (v4 : Int32) (v5 : Int32) (m : xmm) {z : xmm} (h : (xgd (xinb 403 v5) (if (m.1 147 (v5).toNatClampNeg) = (2 : Int32) then if (m.1 149 (v5).toNatClampNeg) < (m.1 144 20) then bX12_meansCross_144_51 v1 v2 v4 v5 (m.1 149 (v5).toNatClampNeg) m else (fX12_wrong_144 (5 : Int32) v5 m).bind fun (w4 : xmm) => bX12_meansCross_144_51 v1 v2 (1 : Int32) v5 (m.1 149 (v5).toNatClampNeg) w4 else if v4 = 0 then if (m.1 144 20) ≤ v2 then bX12_meansCross_144_121 v2 (0 : Int32) m else (fX12_wrong_144 (6 : Int32) v5 m).bind fun (w2 : xmm) => bX12_meansCross_144_121 v2 (0 : Int32) w2 else some m)) = some z) : bX12_meansCross_144_12 v1 v2 v4 v5 m = some z := by
  refine xstV ?_
  show xT 178 1 12 [(0, .ref 144), (1, .int v1), (2, .int v2), (4, .int v4), (5, .int v5)] [] m (none, z)
  refine e_aload_n rfl rfl rfl (xnm_no rfl) ?_
  refine e_getR (r := 147) rfl rfl rfl rfl rfl (xnm_no rfl) ?_
  refine e_iload rfl rfl (xnm_no rfl) ?_
  obtain ⟨g1, h⟩ := xgd_some h
  refine e_iald rfl g1 (xnm_no rfl) ?_
  refine e_iconst (x := 2) rfl (by decide) (xnm_no rfl) ?_
  refine e_icmp_ne (t := 96) rfl rfl (xnm_no rfl) (xnm_no rfl) h (fun h => ?_) (fun h => ?_)
  · refine e_iload rfl rfl (xnm_no rfl) ?_
    refine e_if_eq (t := 102) rfl rfl (xnm_no rfl) (xnm_no rfl) h (fun h => ?_) (fun h => ?_)
    · refine e_iload_n rfl rfl (xnm_no rfl) ?_
      refine e_aload_n rfl rfl rfl (xnm_no rfl) ?_
      refine e_getI rfl rfl rfl rfl (xnm_no rfl) ?_
      refine e_icmp_ge (t := 118) rfl rfl (xnm_no rfl) (xnm_no rfl) h (fun h => ?_) (fun h => ?_)
      · refine e_iconst (x := 0) rfl (by decide) (xnm_no rfl) ?_
        refine e_istore rfl rfl rfl ?_
        exact xlfV h
      · refine e_aload_n rfl rfl rfl (xnm_no rfl) ?_
        refine e_bipush (x := 6) rfl (by decide) (xnm_no rfl) ?_
        refine e_iload rfl rfl (xnm_no rfl) ?_
        obtain ⟨w2, hw3, h⟩ := xbd_some h
        refine e_cVV (hc := hw3) (rest := []) rfl rfl rfl rfl rfl rfl rfl rfl (xnm_no rfl) ?_
        refine e_iconst (x := 0) rfl (by decide) (xnm_no rfl) ?_
        refine e_istore rfl rfl rfl ?_
        exact xlfV h
    · cases h
      exact e_retV rfl rfl
  · refine e_aload_n rfl rfl rfl (xnm_no rfl) ?_
    refine e_getR (r := 149) rfl rfl rfl rfl rfl (xnm_no rfl) ?_
    refine e_iload rfl rfl (xnm_no rfl) ?_
    refine e_iald rfl g1 (xnm_no rfl) ?_
    refine e_istore rfl rfl (xnm_no rfl) ?_
    refine e_iload rfl rfl (xnm_no rfl) ?_
    refine e_aload_n rfl rfl rfl (xnm_no rfl) ?_
    refine e_getI rfl rfl rfl rfl (xnm_no rfl) ?_
    refine e_icmp_lt (t := 51) rfl rfl rfl (xnm_no rfl) h (fun h => ?_) (fun h => ?_)
    · exact xlfV h
    · refine e_aload_n rfl rfl rfl (xnm_no rfl) ?_
      refine e_iconst (x := 5) rfl (by decide) (xnm_no rfl) ?_
      refine e_iload rfl rfl (xnm_no rfl) ?_
      obtain ⟨w4, hw5, h⟩ := xbd_some h
      refine e_cVV (hc := hw5) (rest := []) rfl rfl rfl rfl rfl rfl rfl rfl (xnm_no rfl) ?_
      refine e_iconst (x := 1) rfl (by decide) (xnm_no rfl) ?_
      refine e_istore rfl rfl rfl ?_
      exact xlfV h
set_option maxRecDepth 4000 in
theorem bX12_meansCross_144_121_i (v2 : Int32) (v6 : Int32) (m : xmm) {z : xmm} (h : (if v2 ≤ v6 then some m else bX12_meansCross_144_130 v2 v6 (0 : Int32) m) = some z) : bX12_meansCross_144_121 v2 v6 m = some z := by
  refine xstV ?_
  show xT 178 1 121 [(0, .ref 144), (2, .int v2), (6, .int v6)] [] m (none, z)
  refine e_iload rfl rfl (xnm_no rfl) ?_
  refine e_iload_n rfl rfl (xnm_no rfl) ?_
  refine e_icmp_ge (t := 177) rfl rfl (xnm_no rfl) (xnm_no rfl) h (fun h => ?_) (fun h => ?_)
  · cases h
    exact e_retV rfl rfl
  · refine e_iconst (x := 0) rfl (by decide) (xnm_no rfl) ?_
    refine e_istore rfl rfl rfl ?_
    exact xlfV h
set_option maxRecDepth 4000 in
theorem bX12_meansCross_144_51_i (v1 : Int32) (v2 : Int32) (v4 : Int32) (v5 : Int32) (v6 : Int32) (m : xmm) {z : xmm} (h : ((fX12_isToldAhead_144 v1 v5 m).bind fun (w1 : Int32 × xmm) => if w1.1 = 0 then bX12_meansCross_144_71 v1 v2 v4 v5 v6 w1.2 else (fX12_wrong_144 (3 : Int32) v5 w1.2).bind fun (w3 : xmm) => bX12_meansCross_144_71 v1 v2 (1 : Int32) v5 v6 w3) = some z) : bX12_meansCross_144_51 v1 v2 v4 v5 v6 m = some z := by
  refine xstV ?_
  show xT 178 1 51 [(0, .ref 144), (1, .int v1), (2, .int v2), (4, .int v4), (5, .int v5), (6, .int v6)] [] m (none, z)
  refine e_aload_n rfl rfl rfl (xnm_no rfl) ?_
  refine e_iload_n rfl rfl (xnm_no rfl) ?_
  refine e_iload rfl rfl (xnm_no rfl) ?_
  obtain ⟨w1, hw2, h⟩ := xbd_some h
  refine e_cIV (hc := hw2) (rest := []) rfl rfl rfl rfl rfl rfl rfl rfl (xnm_no rfl) ?_
  refine e_if_eq (t := 71) rfl rfl rfl (xnm_no rfl) h (fun h => ?_) (fun h => ?_)
  · exact xlfV h
  · refine e_aload_n rfl rfl rfl (xnm_no rfl) ?_
    refine e_iconst (x := 3) rfl (by decide) (xnm_no rfl) ?_
    refine e_iload rfl rfl (xnm_no rfl) ?_
    obtain ⟨w3, hw4, h⟩ := xbd_some h
    refine e_cVV (hc := hw4) (rest := []) rfl rfl rfl rfl rfl rfl rfl rfl (xnm_no rfl) ?_
    refine e_iconst (x := 1) rfl (by decide) (xnm_no rfl) ?_
    refine e_istore rfl rfl rfl ?_
    exact xlfV h
set_option maxRecDepth 4000 in
theorem bX12_meansCross_144_130_i (v2 : Int32) (v6 : Int32) (v7 : Int32) (m : xmm) {z : xmm} (h : (if v6 ≤ v7 then bX12_meansCross_144_121 v2 (v6 + (1 : Int32)) m else xgd (xinb 8 v7) (xgd (xinb 8 v6) (if (m.1 155 (v7).toNatClampNeg) ≤ (m.1 155 (v6).toNatClampNeg) then bX12_meansCross_144_130 v2 v6 (v7 + (1 : Int32)) m else (fX12_joins 153 v7 v6 m).bind fun (w3 : xmm) => bX12_meansCross_144_130 v2 v6 (v7 + (1 : Int32)) w3))) = some z) : bX12_meansCross_144_130 v2 v6 v7 m = some z := by
  refine xstV ?_
  show xT 178 1 130 [(0, .ref 144), (2, .int v2), (6, .int v6), (7, .int v7)] [] m (none, z)
  refine e_iload rfl rfl (xnm_no rfl) ?_
  refine e_iload rfl rfl (xnm_no rfl) ?_
  refine e_icmp_ge (t := 171) rfl rfl (xnm_no rfl) (xnm_no rfl) h (fun h => ?_) (fun h => ?_)
  · refine e_iinc (y := 1) rfl rfl rfl (by decide) (xnm_no rfl) ?_
    refine e_goto (t := 121) rfl rfl rfl ?_
    exact xlfV h
  · refine e_aload_n rfl rfl rfl (xnm_no rfl) ?_
    refine e_getR (r := 155) rfl rfl rfl rfl rfl (xnm_no rfl) ?_
    refine e_iload rfl rfl (xnm_no rfl) ?_
    obtain ⟨g1, h⟩ := xgd_some h
    refine e_iald rfl g1 (xnm_no rfl) ?_
    refine e_aload_n rfl rfl rfl (xnm_no rfl) ?_
    refine e_getR (r := 155) rfl rfl rfl rfl rfl (xnm_no rfl) ?_
    refine e_iload rfl rfl (xnm_no rfl) ?_
    obtain ⟨g2, h⟩ := xgd_some h
    refine e_iald rfl g2 (xnm_no rfl) ?_
    refine e_icmp_le (t := 165) rfl rfl (xnm_no rfl) (xnm_no rfl) h (fun h => ?_) (fun h => ?_)
    · refine e_iinc (y := 1) rfl rfl rfl (by decide) (xnm_no rfl) ?_
      refine e_goto (t := 130) rfl rfl rfl ?_
      exact xlfV h
    · refine e_aload_n rfl rfl rfl (xnm_no rfl) ?_
      refine e_getR (r := 153) rfl rfl rfl rfl rfl (xnm_no rfl) ?_
      refine e_iload rfl rfl (xnm_no rfl) ?_
      refine e_iload rfl rfl (xnm_no rfl) ?_
      obtain ⟨w3, hw4, h⟩ := xbd_some h
      refine e_cVS (hc := hw4) (rest := []) rfl rfl rfl rfl rfl rfl rfl rfl (xnm_no rfl) ?_
      refine e_iinc (y := 1) rfl rfl rfl (by decide) (xnm_no rfl) ?_
      refine e_goto (t := 130) rfl rfl rfl ?_
      exact xlfV h
set_option maxRecDepth 4000 in
theorem bX12_meansCross_144_71_i (v1 : Int32) (v2 : Int32) (v4 : Int32) (v5 : Int32) (v6 : Int32) (m : xmm) {z : xmm} (h : (if v4 = 0 then xgd (xinb 8 v2) (xlt (xwi m 155 (v2).toNatClampNeg v6) fun (m2 : xmm) => bX12_meansCross_144_12 v1 (v2 + (1 : Int32)) v4 (v5 + (1 : Int32)) m2) else bX12_meansCross_144_12 v1 v2 v4 (v5 + (1 : Int32)) m) = some z) : bX12_meansCross_144_71 v1 v2 v4 v5 v6 m = some z := by
  refine xstV ?_
  show xT 178 1 71 [(0, .ref 144), (1, .int v1), (2, .int v2), (4, .int v4), (5, .int v5), (6, .int v6)] [] m (none, z)
  refine e_iload rfl rfl (xnm_no rfl) ?_
  refine e_if_eq (t := 79) rfl rfl (xnm_no rfl) (xnm_no rfl) h (fun h => ?_) (fun h => ?_)
  · refine e_aload_n rfl rfl rfl (xnm_no rfl) ?_
    refine e_getR (r := 155) rfl rfl rfl rfl rfl (xnm_no rfl) ?_
    refine e_iload_n rfl rfl (xnm_no rfl) ?_
    refine e_iload rfl rfl (xnm_no rfl) ?_
    obtain ⟨g1, h⟩ := xgd_some h
    refine e_iast rfl g1 (xnm_no rfl) ?_
    replace h := xlt_b h
    refine e_iinc (y := 1) rfl rfl rfl (by decide) (xnm_no rfl) ?_
    refine e_iinc (y := 1) rfl rfl rfl (by decide) (xnm_no rfl) ?_
    refine e_goto (t := 12) rfl rfl rfl ?_
    exact xlfV h
  · refine e_goto (t := 90) rfl rfl (xnm_no rfl) ?_
    refine e_iinc (y := 1) rfl rfl rfl (by decide) (xnm_no rfl) ?_
    refine e_goto (t := 12) rfl rfl rfl ?_
    exact xlfV h
