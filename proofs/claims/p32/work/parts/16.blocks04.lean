set_option maxRecDepth 4000 in
theorem fX7_refuse_1_i (v1 : Int32) (v2 : Int32) (m : xmm) {z : xmm} (h : (xlt (xwi m 1 2 v1) fun (m1 : xmm) => xlt (xwi m1 1 3 v2) fun (m2 : xmm) => some m2) = some z) : fX7_refuse_1 v1 v2 m = some z := by
  refine xstV ?_
  show xT 73 0 0 [(0, .ref 1), (1, .int v1), (2, .int v2)] [] m (none, z)
  refine e_aload_n rfl rfl rfl (xnm_no rfl) ?_
  refine e_iload_n rfl rfl (xnm_no rfl) ?_
  refine e_putI rfl rfl rfl rfl (xnm_no rfl) ?_
  replace h := xlt_b h
  refine e_aload_n rfl rfl rfl (xnm_no rfl) ?_
  refine e_iload_n rfl rfl (xnm_no rfl) ?_
  refine e_putI rfl rfl rfl rfl (xnm_no rfl) ?_
  replace h := xlt_b h
  cases h
  exact e_retV rfl rfl
set_option maxRecDepth 4000 in
theorem fX7_numberOf_1_i (v1 : Int32) (v2 : Int32) (m : xmm) {z : Int64 × xmm} (h : (bX7_numberOf_1_5 v2 (0 : Int64) v1 m) = some z) : fX7_numberOf_1 v1 v2 m = some z := by
  refine xstJ ?_
  show xT 86 1 0 [(0, .ref 1), (1, .int v1), (2, .int v2)] [] m (some (.long z.1), z.2)
  refine e_lconst (x := 0) rfl (by decide) (xnm_no rfl) ?_
  refine e_lstore_n rfl rfl (xnm_no rfl) ?_
  refine e_iload_n rfl rfl (xnm_no rfl) ?_
  refine e_istore rfl rfl rfl ?_
  exact xlfJ h
set_option maxRecDepth 4000 in
theorem bX7_numberOf_1_5_i (v2 : Int32) (v3 : Int64) (v5 : Int32) (m : xmm) {z : Int64 × xmm} (h : (if v2 ≤ v5 then some (v3, m) else (fX7_signAt_1 v5 m).bind fun (w1 : Int32 × xmm) => xlt ((((10 : Int64) * v3) + (Int32.toInt64 w1.1)) - (48 : Int64)) fun (x3 : Int64) => bX7_numberOf_1_5 v2 x3 (v5 + (1 : Int32)) w1.2) = some z) : bX7_numberOf_1_5 v2 v3 v5 m = some z := by
  refine xstJ ?_
  show xT 86 1 5 [(0, .ref 1), (2, .int v2), (3, .long v3), (5, .int v5)] [] m (some (.long z.1), z.2)
  refine e_iload rfl rfl (xnm_no rfl) ?_
  refine e_iload_n rfl rfl (xnm_no rfl) ?_
  refine e_icmp_ge (t := 35) rfl rfl (xnm_no rfl) (xnm_no rfl) h (fun h => ?_) (fun h => ?_)
  · refine e_lload_n rfl rfl (xnm_no rfl) ?_
    cases h
    exact e_retJ rfl rfl
  · refine e_ldc2 (v := 10) rfl rfl (xnm_no rfl) ?_
    refine e_lload_n rfl rfl (xnm_no rfl) ?_
    refine e_lmul rfl (xnm_no rfl) ?_
    refine e_aload_n rfl rfl rfl (xnm_no rfl) ?_
    refine e_iload rfl rfl (xnm_no rfl) ?_
    obtain ⟨w1, hw2, h⟩ := xbd_some h
    refine e_cIV (hc := hw2) (rest := [.long _]) rfl rfl rfl rfl rfl rfl rfl rfl (xnm_no rfl) ?_
    refine e_i2l rfl (xnm_no rfl) ?_
    refine e_ladd rfl (xnm_no rfl) ?_
    refine e_ldc2 (v := 48) rfl rfl (xnm_no rfl) ?_
    refine e_lsub rfl (xnm_no rfl) ?_
    replace h := xlt_b h
    refine e_lstore_n rfl rfl (xnm_no rfl) ?_
    refine e_iinc (y := 1) rfl rfl rfl (by decide) (xnm_no rfl) ?_
    refine e_goto (t := 5) rfl rfl rfl ?_
    exact xlfJ h
set_option maxRecDepth 4000 in
theorem fX7_codeOf_1_i (v1 : Int32) (v2 : Int32) (m : xmm) {z : Int64 × xmm} (h : (bX7_codeOf_1_5 v2 (0 : Int64) v1 m) = some z) : fX7_codeOf_1 v1 v2 m = some z := by
  refine xstJ ?_
  show xT 85 1 0 [(0, .ref 1), (1, .int v1), (2, .int v2)] [] m (some (.long z.1), z.2)
  refine e_lconst (x := 0) rfl (by decide) (xnm_no rfl) ?_
  refine e_lstore_n rfl rfl (xnm_no rfl) ?_
  refine e_iload_n rfl rfl (xnm_no rfl) ?_
  refine e_istore rfl rfl rfl ?_
  exact xlfJ h
set_option maxRecDepth 4000 in
theorem bX7_codeOf_1_5_i (v2 : Int32) (v3 : Int64) (v5 : Int32) (m : xmm) {z : Int64 × xmm} (h : (if v2 ≤ v5 then some (v3, m) else (fX7_signAt_1 v5 m).bind fun (w1 : Int32 × xmm) => xlt ((v3 <<< (((8 : Int32)).toInt64 &&& 63)) ||| (Int32.toInt64 w1.1)) fun (x3 : Int64) => bX7_codeOf_1_5 v2 x3 (v5 + (1 : Int32)) w1.2) = some z) : bX7_codeOf_1_5 v2 v3 v5 m = some z := by
  refine xstJ ?_
  show xT 85 1 5 [(0, .ref 1), (2, .int v2), (3, .long v3), (5, .int v5)] [] m (some (.long z.1), z.2)
  refine e_iload rfl rfl (xnm_no rfl) ?_
  refine e_iload_n rfl rfl (xnm_no rfl) ?_
  refine e_icmp_ge (t := 30) rfl rfl (xnm_no rfl) (xnm_no rfl) h (fun h => ?_) (fun h => ?_)
  · refine e_lload_n rfl rfl (xnm_no rfl) ?_
    cases h
    exact e_retJ rfl rfl
  · refine e_lload_n rfl rfl (xnm_no rfl) ?_
    refine e_bipush (x := 8) rfl (by decide) (xnm_no rfl) ?_
    refine e_lshl rfl (xnm_no rfl) ?_
    refine e_aload_n rfl rfl rfl (xnm_no rfl) ?_
    refine e_iload rfl rfl (xnm_no rfl) ?_
    obtain ⟨w1, hw2, h⟩ := xbd_some h
    refine e_cIV (hc := hw2) (rest := [.long _]) rfl rfl rfl rfl rfl rfl rfl rfl (xnm_no rfl) ?_
    refine e_i2l rfl (xnm_no rfl) ?_
    refine e_lor rfl (xnm_no rfl) ?_
    replace h := xlt_b h
    refine e_lstore_n rfl rfl (xnm_no rfl) ?_
    refine e_iinc (y := 1) rfl rfl rfl (by decide) (xnm_no rfl) ?_
    refine e_goto (t := 5) rfl rfl rfl ?_
    exact xlfJ h
set_option maxRecDepth 4000 in
theorem fX7_keepToken_1_i (v1 : Int32) (v2 : Int32) (m : xmm) {z : xmm} (h : (xgd (xinb 400 (m.1 1 8)) (xlt (xwi m 5 ((m.1 1 8)).toNatClampNeg v1) fun (m2 : xmm) => xgd (xinb 400 (m2.1 1 8)) (xlt (xwi m2 6 ((m2.1 1 8)).toNatClampNeg v2) fun (m4 : xmm) => if v1 = (1 : Int32) then (fX7_codeOf_1 v2 (m4.1 1 9) m4).bind fun (w7 : Int64 × xmm) => bX7_keepToken_1_63 (m4.1 1 8) w7.1 w7.2 else if v1 = (2 : Int32) then (fX7_numberOf_1 v2 (m4.1 1 9) m4).bind fun (w5 : Int64 × xmm) => bX7_keepToken_1_63 (m4.1 1 8) w5.1 w5.2 else bX7_keepToken_1_63 (m4.1 1 8) (0 : Int64) m4))) = some z) : fX7_keepToken_1 v1 v2 m = some z := by
  refine xstV ?_
  show xT 75 2 0 [(0, .ref 1), (1, .int v1), (2, .int v2)] [] m (none, z)
  refine e_aload_n rfl rfl rfl (xnm_no rfl) ?_
  refine e_getR (r := 5) rfl rfl rfl rfl rfl (xnm_no rfl) ?_
  refine e_aload_n rfl rfl rfl (xnm_no rfl) ?_
  refine e_getI rfl rfl rfl rfl (xnm_no rfl) ?_
  refine e_iload_n rfl rfl (xnm_no rfl) ?_
  obtain ⟨g1, h⟩ := xgd_some h
  refine e_iast rfl g1 (xnm_no rfl) ?_
  replace h := xlt_b h
  refine e_aload_n rfl rfl rfl (xnm_no rfl) ?_
  refine e_getR (r := 6) rfl rfl rfl rfl rfl (xnm_no rfl) ?_
  refine e_aload_n rfl rfl rfl (xnm_no rfl) ?_
  refine e_getI rfl rfl rfl rfl (xnm_no rfl) ?_
  refine e_iload_n rfl rfl (xnm_no rfl) ?_
  obtain ⟨g3, h⟩ := xgd_some h
  refine e_iast rfl g3 (xnm_no rfl) ?_
  replace h := xlt_b h
  refine e_aload_n rfl rfl rfl (xnm_no rfl) ?_
  refine e_getR (r := 7) rfl rfl rfl rfl rfl (xnm_no rfl) ?_
  refine e_aload_n rfl rfl rfl (xnm_no rfl) ?_
  refine e_getI rfl rfl rfl rfl (xnm_no rfl) ?_
  refine e_iload_n rfl rfl (xnm_no rfl) ?_
  refine e_iconst (x := 1) rfl (by decide) (xnm_no rfl) ?_
  refine e_icmp_ne (t := 45) rfl rfl (xnm_no rfl) (xnm_no rfl) h (fun h => ?_) (fun h => ?_)
  · refine e_iload_n rfl rfl (xnm_no rfl) ?_
    refine e_iconst (x := 2) rfl (by decide) (xnm_no rfl) ?_
    refine e_icmp_ne (t := 62) rfl rfl (xnm_no rfl) (xnm_no rfl) h (fun h => ?_) (fun h => ?_)
    · refine e_lconst (x := 0) rfl (by decide) rfl ?_
      exact xlfV h
    · refine e_aload_n rfl rfl rfl (xnm_no rfl) ?_
      refine e_iload_n rfl rfl (xnm_no rfl) ?_
      refine e_aload_n rfl rfl rfl (xnm_no rfl) ?_
      refine e_getI rfl rfl rfl rfl (xnm_no rfl) ?_
      obtain ⟨w5, hw6, h⟩ := xbd_some h
      refine e_cJV (hc := hw6) (rest := [.int _, .ref 7]) rfl rfl rfl rfl rfl rfl rfl rfl (xnm_no rfl) ?_
      refine e_goto (t := 63) rfl rfl rfl ?_
      exact xlfV h
  · refine e_aload_n rfl rfl rfl (xnm_no rfl) ?_
    refine e_iload_n rfl rfl (xnm_no rfl) ?_
    refine e_aload_n rfl rfl rfl (xnm_no rfl) ?_
    refine e_getI rfl rfl rfl rfl (xnm_no rfl) ?_
    obtain ⟨w7, hw8, h⟩ := xbd_some h
    refine e_cJV (hc := hw8) (rest := [.int _, .ref 7]) rfl rfl rfl rfl rfl rfl rfl rfl (xnm_no rfl) ?_
    refine e_goto (t := 63) rfl rfl rfl ?_
    exact xlfV h
set_option maxRecDepth 4000 in
theorem bX7_keepToken_1_63_i (s1 : Int32) (s2 : Int64) (m : xmm) {z : xmm} (h : (xgd (xinb 400 s1) (xlt (xwj m 7 (s1).toNatClampNeg s2) fun (m2 : xmm) => xlt (xwi m2 1 8 ((m2.1 1 8) + (1 : Int32))) fun (m3 : xmm) => some m3)) = some z) : bX7_keepToken_1_63 s1 s2 m = some z := by
  refine xstV ?_
  show xT 75 2 63 [(0, .ref 1)] [.long s2, .int s1, .ref 7] m (none, z)
  obtain ⟨g1, h⟩ := xgd_some h
  refine e_last rfl g1 (xnm_no rfl) ?_
  replace h := xlt_b h
  refine e_aload_n rfl rfl rfl (xnm_no rfl) ?_
  refine e_dup rfl rfl (xnm_no rfl) ?_
  refine e_getI rfl rfl rfl rfl (xnm_no rfl) ?_
  refine e_iconst (x := 1) rfl (by decide) (xnm_no rfl) ?_
  refine e_iadd rfl (xnm_no rfl) ?_
  refine e_putI rfl rfl rfl rfl (xnm_no rfl) ?_
  replace h := xlt_b h
  cases h
  exact e_retV rfl rfl
set_option maxRecDepth 4000 in
theorem fX7_checkForm_1_i (m : xmm) {z : xmm} (h : (xlt (xwi m 1 8 (0 : Int32)) fun (m1 : xmm) => xlt (xwi m1 1 9 (0 : Int32)) fun (m2 : xmm) => bX7_checkForm_1_16 (0 : Int32) (0 : Int32) (0 : Int32) m2) = some z) : fX7_checkForm_1 m = some z := by
  refine xstV ?_
  show xT 74 7 0 [(0, .ref 1)] [] m (none, z)
  refine e_aload_n rfl rfl rfl (xnm_no rfl) ?_
  refine e_iconst (x := 0) rfl (by decide) (xnm_no rfl) ?_
  refine e_putI rfl rfl rfl rfl (xnm_no rfl) ?_
  replace h := xlt_b h
  refine e_aload_n rfl rfl rfl (xnm_no rfl) ?_
  refine e_iconst (x := 0) rfl (by decide) (xnm_no rfl) ?_
  refine e_putI rfl rfl rfl rfl (xnm_no rfl) ?_
  replace h := xlt_b h
  refine e_iconst (x := 0) rfl (by decide) (xnm_no rfl) ?_
  refine e_istore_n rfl rfl (xnm_no rfl) ?_
  refine e_iconst (x := 0) rfl (by decide) (xnm_no rfl) ?_
  refine e_istore_n rfl rfl (xnm_no rfl) ?_
  refine e_iconst (x := 0) rfl (by decide) (xnm_no rfl) ?_
  refine e_istore_n rfl rfl rfl ?_
  exact xlfV h
set_option maxRecDepth 4000 in
theorem bX7_checkForm_1_16_i (v1 : Int32) (v2 : Int32) (v3 : Int32) (m : xmm) {z : xmm} (h : (if (400 : Int32) < v3 then some m else (fX7_skipBlanks_1 m).bind fun (w1 : xmm) => (fX7_scan_1 w1).bind fun (w3 : Int32 × xmm) => if w3.1 = (9 : Int32) then if v1 = (2 : Int32) then some w3.2 else bX7_checkForm_1_52 v1 v2 v3 (w1.1 1 9) w3.1 w3.2 else bX7_checkForm_1_52 v1 v2 v3 (w1.1 1 9) w3.1 w3.2) = some z) : bX7_checkForm_1_16 v1 v2 v3 m = some z := by
  refine xstV ?_
  show xT 74 7 16 [(0, .ref 1), (1, .int v1), (2, .int v2), (3, .int v3)] [] m (none, z)
  refine e_iload_n rfl rfl (xnm_no rfl) ?_
  refine e_sipush (x := 400) rfl (by decide) (xnm_no rfl) ?_
  refine e_icmp_gt (t := 125) rfl rfl (xnm_no rfl) (xnm_no rfl) h (fun h => ?_) (fun h => ?_)
  · cases h
    exact e_retV rfl rfl
  · refine e_aload_n rfl rfl rfl (xnm_no rfl) ?_
    obtain ⟨w1, hw2, h⟩ := xbd_some h
    refine e_cVV (hc := hw2) (rest := []) rfl rfl rfl rfl rfl rfl rfl rfl (xnm_no rfl) ?_
    refine e_aload_n rfl rfl rfl (xnm_no rfl) ?_
    refine e_getI rfl rfl rfl rfl (xnm_no rfl) ?_
    refine e_istore rfl rfl (xnm_no rfl) ?_
    refine e_aload_n rfl rfl rfl (xnm_no rfl) ?_
    obtain ⟨w3, hw4, h⟩ := xbd_some h
    refine e_cIV (hc := hw4) (rest := []) rfl rfl rfl rfl rfl rfl rfl rfl (xnm_no rfl) ?_
    refine e_istore rfl rfl (xnm_no rfl) ?_
    refine e_iload rfl rfl (xnm_no rfl) ?_
    refine e_bipush (x := 9) rfl (by decide) (xnm_no rfl) ?_
    refine e_icmp_ne (t := 52) rfl rfl rfl (xnm_no rfl) h (fun h => ?_) (fun h => ?_)
    · exact xlfV h
    · refine e_iload_n rfl rfl (xnm_no rfl) ?_
      refine e_iconst (x := 2) rfl (by decide) (xnm_no rfl) ?_
      refine e_icmp_ne (t := 52) rfl rfl rfl (xnm_no rfl) h (fun h => ?_) (fun h => ?_)
      · exact xlfV h
      · cases h
        exact e_retV rfl rfl
set_option maxRecDepth 4000 in
theorem bX7_checkForm_1_52_i (v1 : Int32) (v2 : Int32) (v3 : Int32) (v4 : Int32) (v5 : Int32) (m : xmm) {z : xmm} (h : ((fX7_follow v1 v5 m).bind fun (w1 : Int32 × xmm) => if w1.1 = (8 : Int32) then (fX7_refuse_1 (1 : Int32) v4 w1.2).bind fun (w3 : xmm) => some w3 else if w1.1 = (1 : Int32) then if v5 = (1 : Int32) then bX7_checkForm_1_87 w1.1 (v2 + (1 : Int32)) v3 v4 v5 w1.2 else bX7_checkForm_1_87 w1.1 v2 v3 v4 v5 w1.2 else bX7_checkForm_1_87 w1.1 v2 v3 v4 v5 w1.2) = some z) : bX7_checkForm_1_52 v1 v2 v3 v4 v5 m = some z := by
  refine xstV ?_
  show xT 74 7 52 [(0, .ref 1), (1, .int v1), (2, .int v2), (3, .int v3), (4, .int v4), (5, .int v5)] [] m (none, z)
  refine e_iload_n rfl rfl (xnm_no rfl) ?_
  refine e_iload rfl rfl (xnm_no rfl) ?_
  obtain ⟨w1, hw2, h⟩ := xbd_some h
  refine e_cIS (hc := hw2) (rest := []) rfl rfl rfl rfl rfl rfl rfl rfl (xnm_no rfl) ?_
  refine e_istore_n rfl rfl (xnm_no rfl) ?_
  refine e_iload_n rfl rfl (xnm_no rfl) ?_
  refine e_bipush (x := 8) rfl (by decide) (xnm_no rfl) ?_
  refine e_icmp_ne (t := 73) rfl rfl (xnm_no rfl) (xnm_no rfl) h (fun h => ?_) (fun h => ?_)
  · refine e_iload_n rfl rfl (xnm_no rfl) ?_
    refine e_iconst (x := 1) rfl (by decide) (xnm_no rfl) ?_
    refine e_icmp_ne (t := 87) rfl rfl rfl (xnm_no rfl) h (fun h => ?_) (fun h => ?_)
    · exact xlfV h
    · refine e_iload rfl rfl (xnm_no rfl) ?_
      refine e_iconst (x := 1) rfl (by decide) (xnm_no rfl) ?_
      refine e_icmp_ne (t := 87) rfl rfl rfl (xnm_no rfl) h (fun h => ?_) (fun h => ?_)
      · exact xlfV h
      · refine e_iinc (y := 1) rfl rfl rfl (by decide) rfl ?_
        exact xlfV h
  · refine e_aload_n rfl rfl rfl (xnm_no rfl) ?_
    refine e_iconst (x := 1) rfl (by decide) (xnm_no rfl) ?_
    refine e_iload rfl rfl (xnm_no rfl) ?_
    obtain ⟨w3, hw4, h⟩ := xbd_some h
    refine e_cVV (hc := hw4) (rest := []) rfl rfl rfl rfl rfl rfl rfl rfl (xnm_no rfl) ?_
    cases h
    exact e_retV rfl rfl
set_option maxRecDepth 4000 in
theorem bX7_checkForm_1_87_i (v1 : Int32) (v2 : Int32) (v3 : Int32) (v4 : Int32) (v5 : Int32) (m : xmm) {z : xmm} (h : (if (8 : Int32) < v2 then (fX7_refuse_1 (2 : Int32) v4 m).bind fun (w1 : xmm) => some w1 else if (m.1 1 8) < (400 : Int32) then (fX7_keepToken_1 v5 v4 m).bind fun (w3 : xmm) => bX7_checkForm_1_16 v1 v2 (v3 + (1 : Int32)) w3 else (fX7_refuse_1 (2 : Int32) v4 m).bind fun (w5 : xmm) => some w5) = some z) : bX7_checkForm_1_87 v1 v2 v3 v4 v5 m = some z := by
  refine xstV ?_
  show xT 74 7 87 [(0, .ref 1), (1, .int v1), (2, .int v2), (3, .int v3), (4, .int v4), (5, .int v5)] [] m (none, z)
  refine e_iload_n rfl rfl (xnm_no rfl) ?_
  refine e_bipush (x := 8) rfl (by decide) (xnm_no rfl) ?_
  refine e_icmp_gt (t := 103) rfl rfl (xnm_no rfl) (xnm_no rfl) h (fun h => ?_) (fun h => ?_)
  · refine e_aload_n rfl rfl rfl (xnm_no rfl) ?_
    refine e_iconst (x := 2) rfl (by decide) (xnm_no rfl) ?_
    refine e_iload rfl rfl (xnm_no rfl) ?_
    obtain ⟨w1, hw2, h⟩ := xbd_some h
    refine e_cVV (hc := hw2) (rest := []) rfl rfl rfl rfl rfl rfl rfl rfl (xnm_no rfl) ?_
    cases h
    exact e_retV rfl rfl
  · refine e_aload_n rfl rfl rfl (xnm_no rfl) ?_
    refine e_getI rfl rfl rfl rfl (xnm_no rfl) ?_
    refine e_sipush (x := 400) rfl (by decide) (xnm_no rfl) ?_
    refine e_icmp_lt (t := 111) rfl rfl (xnm_no rfl) (xnm_no rfl) h (fun h => ?_) (fun h => ?_)
    · refine e_aload_n rfl rfl rfl (xnm_no rfl) ?_
      refine e_iload rfl rfl (xnm_no rfl) ?_
      refine e_iload rfl rfl (xnm_no rfl) ?_
      obtain ⟨w3, hw4, h⟩ := xbd_some h
      refine e_cVV (hc := hw4) (rest := []) rfl rfl rfl rfl rfl rfl rfl rfl (xnm_no rfl) ?_
      refine e_iinc (y := 1) rfl rfl rfl (by decide) (xnm_no rfl) ?_
      refine e_goto (t := 16) rfl rfl rfl ?_
      exact xlfV h
    · refine e_aload_n rfl rfl rfl (xnm_no rfl) ?_
      refine e_iconst (x := 2) rfl (by decide) (xnm_no rfl) ?_
      refine e_iload rfl rfl (xnm_no rfl) ?_
      obtain ⟨w5, hw6, h⟩ := xbd_some h
      refine e_cVV (hc := hw6) (rest := []) rfl rfl rfl rfl rfl rfl rfl rfl (xnm_no rfl) ?_
      cases h
      exact e_retV rfl rfl
set_option maxRecDepth 4000 in
theorem fX3_clear_i (v0 : Nat) (m : xmm) {z : xmm} (h : (xgd (!(Nat.beq v0 1999)) (xgd (xob v0 3) (xlt (xwi m v0 0 (0 : Int32)) fun (m3 : xmm) => xlt (xwi m3 v0 1 (0 : Int32)) fun (m4 : xmm) => bX3_clear_12 v0 (0 : Int32) m4))) = some z) : fX3_clear v0 m = some z := by
  refine xstV ?_
  show xT 31 0 0 [(0, .ref v0)] [] m (none, z)
  obtain ⟨g1, h⟩ := xgd_some h
  refine e_aload_n rfl rfl (xnb g1) (xnm_no rfl) ?_
  refine e_iconst (x := 0) rfl (by decide) (xnm_no rfl) ?_
  obtain ⟨g2, h⟩ := xgd_some h
  refine e_putI rfl rfl rfl g2 (xnm_no rfl) ?_
  replace h := xlt_b h
  refine e_aload_n rfl rfl (xnb g1) (xnm_no rfl) ?_
  refine e_iconst (x := 0) rfl (by decide) (xnm_no rfl) ?_
  refine e_putI rfl rfl (by decide) g2 (xnm_no rfl) ?_
  replace h := xlt_b h
  refine e_iconst (x := 0) rfl (by decide) (xnm_no rfl) ?_
  refine e_istore_n rfl rfl rfl ?_
  exact xlfV h
set_option maxRecDepth 4000 in
theorem bX3_clear_12_i (v0 : Nat) (v1 : Int32) (m : xmm) {z : xmm} (h : (if (8 : Int32) ≤ v1 then some m else xgd (!(Nat.beq v0 1999)) (xgd (xob v0 3) (xgr (xR0 v0 2) fun r3 => xgd (xia 1 r3 v1) (xlt (xwi m r3 (v1).toNatClampNeg (0 : Int32)) fun (m6 : xmm) => bX3_clear_12 v0 (v1 + (1 : Int32)) m6)))) = some z) : bX3_clear_12 v0 v1 m = some z := by
  refine xstV ?_
  show xT 31 0 12 [(0, .ref v0), (1, .int v1)] [] m (none, z)
  refine e_iload_n rfl rfl (xnm_no rfl) ?_
  refine e_bipush (x := 8) rfl (by decide) (xnm_no rfl) ?_
  refine e_icmp_ge (t := 31) rfl rfl (xnm_no rfl) (xnm_no rfl) h (fun h => ?_) (fun h => ?_)
  · cases h
    exact e_retV rfl rfl
  · obtain ⟨g1, h⟩ := xgd_some h
    refine e_aload_n rfl rfl (xnb g1) (xnm_no rfl) ?_
    obtain ⟨g2, h⟩ := xgd_some h
    obtain ⟨r3, hr4, h⟩ := xgr_some h
    refine e_getR rfl rfl rfl g2 hr4 (xnm_no rfl) ?_
    refine e_iload_n rfl rfl (xnm_no rfl) ?_
    refine e_iconst (x := 0) rfl (by decide) (xnm_no rfl) ?_
    obtain ⟨g5, h⟩ := xgd_some h
    refine e_iast rfl g5 (xnm_no rfl) ?_
    replace h := xlt_b h
    refine e_iinc (y := 1) rfl rfl rfl (by decide) (xnm_no rfl) ?_
    refine e_goto (t := 12) rfl rfl rfl ?_
    exact xlfV h
set_option maxRecDepth 4000 in
theorem fX3_hasPost_i (v0 : Nat) (v1 : Int32) (m : xmm) {z : Int32 × xmm} (h : (if v1 < 0 then some ((0 : Int32), m) else xgd (!(Nat.beq v0 1999)) (xgd (xob v0 3) (if (m.1 v0 0) ≤ v1 then some ((0 : Int32), m) else if (8 : Int32) ≤ v1 then some ((0 : Int32), m) else some ((1 : Int32), m)))) = some z) : fX3_hasPost v0 v1 m = some z := by
  refine xstI ?_
  show xT 24 0 0 [(0, .ref v0), (1, .int v1)] [] m (some (.int z.1), z.2)
  refine e_iload_n rfl rfl (xnm_no rfl) ?_
  refine e_if_lt (t := 22) rfl rfl (xnm_no rfl) (xnm_no rfl) h (fun h => ?_) (fun h => ?_)
  · refine e_iconst (x := 0) rfl (by decide) (xnm_no rfl) ?_
    cases h
    exact e_retI rfl (by decide)
  · refine e_iload_n rfl rfl (xnm_no rfl) ?_
    obtain ⟨g1, h⟩ := xgd_some h
    refine e_aload_n rfl rfl (xnb g1) (xnm_no rfl) ?_
    obtain ⟨g2, h⟩ := xgd_some h
    refine e_getI rfl rfl rfl g2 (xnm_no rfl) ?_
    refine e_icmp_ge (t := 22) rfl rfl (xnm_no rfl) (xnm_no rfl) h (fun h => ?_) (fun h => ?_)
    · refine e_iconst (x := 0) rfl (by decide) (xnm_no rfl) ?_
      cases h
      exact e_retI rfl (by decide)
    · refine e_iload_n rfl rfl (xnm_no rfl) ?_
      refine e_bipush (x := 8) rfl (by decide) (xnm_no rfl) ?_
      refine e_icmp_ge (t := 22) rfl rfl (xnm_no rfl) (xnm_no rfl) h (fun h => ?_) (fun h => ?_)
      · refine e_iconst (x := 0) rfl (by decide) (xnm_no rfl) ?_
        cases h
        exact e_retI rfl (by decide)
      · refine e_iconst (x := 1) rfl (by decide) (xnm_no rfl) ?_
        refine e_goto (t := 23) rfl rfl (xnm_no rfl) ?_
        cases h
        exact e_retI rfl (by decide)
set_option maxRecDepth 4000 in
theorem fX7_postNamed_1_i (v1 : Int64) (m : xmm) {z : Int32 × xmm} (h : (bX7_postNamed_1_2 v1 (0 : Int32) m) = some z) : fX7_postNamed_1 v1 m = some z := by
  refine xstI ?_
  show xT 88 1 0 [(0, .ref 1), (1, .long v1)] [] m (some (.int z.1), z.2)
  refine e_iconst (x := 0) rfl (by decide) (xnm_no rfl) ?_
  refine e_istore_n rfl rfl rfl ?_
  exact xlfI h
set_option maxRecDepth 4000 in
theorem bX7_postNamed_1_2_i (v1 : Int64) (v3 : Int32) (m : xmm) {z : Int32 × xmm} (h : (if (m.1 3 0) ≤ v3 then some ((-1 : Int32), m) else (fX3_hasPost 3 v3 m).bind fun (w1 : Int32 × xmm) => if w1.1 = 0 then bX7_postNamed_1_2 v1 (v3 + (1 : Int32)) w1.2 else xgd (xinb 8 v3) (if (lg_cmp (w1.2.2 8 (v3).toNatClampNeg) v1) = 0 then some (v3, w1.2) else bX7_postNamed_1_2 v1 (v3 + (1 : Int32)) w1.2)) = some z) : bX7_postNamed_1_2 v1 v3 m = some z := by
  refine xstI ?_
  show xT 88 1 2 [(0, .ref 1), (1, .long v1), (3, .int v3)] [] m (some (.int z.1), z.2)
  refine e_iload_n rfl rfl (xnm_no rfl) ?_
  refine e_aload_n rfl rfl rfl (xnm_no rfl) ?_
  refine e_getR (r := 3) rfl rfl rfl rfl rfl (xnm_no rfl) ?_
  refine e_getI rfl rfl rfl rfl (xnm_no rfl) ?_
  refine e_icmp_ge (t := 43) rfl rfl (xnm_no rfl) (xnm_no rfl) h (fun h => ?_) (fun h => ?_)
  · refine e_iconst (x := -1) rfl (by decide) (xnm_no rfl) ?_
    cases h
    exact e_retI rfl rfl
  · refine e_aload_n rfl rfl rfl (xnm_no rfl) ?_
    refine e_getR (r := 3) rfl rfl rfl rfl rfl (xnm_no rfl) ?_
    refine e_iload_n rfl rfl (xnm_no rfl) ?_
    obtain ⟨w1, hw2, h⟩ := xbd_some h
    refine e_cIV (hc := hw2) (rest := []) rfl rfl rfl rfl rfl rfl rfl rfl (xnm_no rfl) ?_
    refine e_if_eq (t := 37) rfl rfl (xnm_no rfl) (xnm_no rfl) h (fun h => ?_) (fun h => ?_)
    · refine e_iinc (y := 1) rfl rfl rfl (by decide) (xnm_no rfl) ?_
      refine e_goto (t := 2) rfl rfl rfl ?_
      exact xlfI h
    · refine e_aload_n rfl rfl rfl (xnm_no rfl) ?_
      refine e_getR (r := 8) rfl rfl rfl rfl rfl (xnm_no rfl) ?_
      refine e_iload_n rfl rfl (xnm_no rfl) ?_
      obtain ⟨g3, h⟩ := xgd_some h
      refine e_lald rfl g3 (xnm_no rfl) ?_
      refine e_lload_n rfl rfl (xnm_no rfl) ?_
      refine e_lcmp rfl (xnm_no rfl) ?_
      refine e_if_ne (t := 37) rfl rfl (xnm_no rfl) (xnm_no rfl) h (fun h => ?_) (fun h => ?_)
      · refine e_iinc (y := 1) rfl rfl rfl (by decide) (xnm_no rfl) ?_
        refine e_goto (t := 2) rfl rfl rfl ?_
        exact xlfI h
      · refine e_iload_n rfl rfl (xnm_no rfl) ?_
        cases h
        exact e_retI rfl rfl
set_option maxRecDepth 4000 in
theorem fX3_hasPair_i (v0 : Nat) (v1 : Int32) (v2 : Int32) (m : xmm) {z : Int32 × xmm} (h : (if v1 = v2 then some ((0 : Int32), m) else xgd (!(Nat.beq v0 1999)) ((fX3_hasPost v0 v1 m).bind fun (w2 : Int32 × xmm) => xgd (xob v0 3) (if w2.1 = 0 then some ((0 : Int32), w2.2) else (fX3_hasPost v0 v2 w2.2).bind fun (w5 : Int32 × xmm) => if w5.1 = 0 then some ((0 : Int32), w5.2) else some ((1 : Int32), w5.2)))) = some z) : fX3_hasPair v0 v1 v2 m = some z := by
  refine xstI ?_
  show xT 25 1 0 [(0, .ref v0), (1, .int v1), (2, .int v2)] [] m (some (.int z.1), z.2)
  refine e_iload_n rfl rfl (xnm_no rfl) ?_
  refine e_iload_n rfl rfl (xnm_no rfl) ?_
  refine e_icmp_eq (t := 25) rfl rfl (xnm_no rfl) (xnm_no rfl) h (fun h => ?_) (fun h => ?_)
  · refine e_iconst (x := 0) rfl (by decide) (xnm_no rfl) ?_
    cases h
    exact e_retI rfl (by decide)
  · obtain ⟨g1, h⟩ := xgd_some h
    refine e_aload_n rfl rfl (xnb g1) (xnm_no rfl) ?_
    refine e_iload_n rfl rfl (xnm_no rfl) ?_
    obtain ⟨w2, hw3, h⟩ := xbd_some h
    obtain ⟨g4, h⟩ := xgd_some h
    refine e_cIV (hc := hw3) (rest := []) rfl rfl rfl rfl rfl (xorb g4) rfl rfl (xnm_no rfl) ?_
    refine e_if_eq (t := 25) rfl rfl (xnm_no rfl) (xnm_no rfl) h (fun h => ?_) (fun h => ?_)
    · refine e_iconst (x := 0) rfl (by decide) (xnm_no rfl) ?_
      cases h
      exact e_retI rfl (by decide)
    · refine e_aload_n rfl rfl (xnb g1) (xnm_no rfl) ?_
      refine e_iload_n rfl rfl (xnm_no rfl) ?_
      obtain ⟨w5, hw6, h⟩ := xbd_some h
      refine e_cIV (hc := hw6) (rest := []) rfl rfl rfl rfl rfl (xorb g4) rfl rfl (xnm_no rfl) ?_
      refine e_if_eq (t := 25) rfl rfl (xnm_no rfl) (xnm_no rfl) h (fun h => ?_) (fun h => ?_)
      · refine e_iconst (x := 0) rfl (by decide) (xnm_no rfl) ?_
        cases h
        exact e_retI rfl (by decide)
      · refine e_iconst (x := 1) rfl (by decide) (xnm_no rfl) ?_
        refine e_goto (t := 26) rfl rfl (xnm_no rfl) ?_
        cases h
        exact e_retI rfl (by decide)
set_option maxRecDepth 4000 in
theorem fX3_join_i (v0 : Nat) (v1 : Int32) (v2 : Int32) (m : xmm) {z : xmm} (h : (xgd (!(Nat.beq v0 1999)) ((fX3_hasPair v0 v1 v2 m).bind fun (w2 : Int32 × xmm) => xgd (xob v0 3) (if w2.1 = 0 then some w2.2 else xgr (xR0 v0 2) fun r5 => xgd (xia 1 r5 v1) (xlt (xwi w2.2 r5 (v1).toNatClampNeg ((w2.2.1 r5 (v1).toNatClampNeg) ||| ((1 : Int32) <<< (v2 &&& 31)))) fun (m8 : xmm) => xgd (xia 1 r5 v2) (xlt (xwi m8 r5 (v2).toNatClampNeg ((m8.1 r5 (v2).toNatClampNeg) ||| ((1 : Int32) <<< (v1 &&& 31)))) fun (m10 : xmm) => some m10))))) = some z) : fX3_join v0 v1 v2 m = some z := by
  refine xstV ?_
  show xT 33 2 0 [(0, .ref v0), (1, .int v1), (2, .int v2)] [] m (none, z)
  obtain ⟨g1, h⟩ := xgd_some h
  refine e_aload_n rfl rfl (xnb g1) (xnm_no rfl) ?_
  refine e_iload_n rfl rfl (xnm_no rfl) ?_
  refine e_iload_n rfl rfl (xnm_no rfl) ?_
  obtain ⟨w2, hw3, h⟩ := xbd_some h
  obtain ⟨g4, h⟩ := xgd_some h
  refine e_cIV (hc := hw3) (rest := []) rfl rfl rfl rfl rfl (xorb g4) rfl rfl (xnm_no rfl) ?_
  refine e_if_eq (t := 33) rfl rfl (xnm_no rfl) (xnm_no rfl) h (fun h => ?_) (fun h => ?_)
  · cases h
    exact e_retV rfl rfl
  · refine e_aload_n rfl rfl (xnb g1) (xnm_no rfl) ?_
    obtain ⟨r5, hr6, h⟩ := xgr_some h
    refine e_getR rfl rfl rfl g4 hr6 (xnm_no rfl) ?_
    refine e_iload_n rfl rfl (xnm_no rfl) ?_
    refine e_dup2 rfl rfl rfl (xnm_no rfl) ?_
    obtain ⟨g7, h⟩ := xgd_some h
    refine e_iald rfl g7 (xnm_no rfl) ?_
    refine e_iconst (x := 1) rfl (by decide) (xnm_no rfl) ?_
    refine e_iload_n rfl rfl (xnm_no rfl) ?_
    refine e_ishl rfl (xnm_no rfl) ?_
    refine e_ior rfl (xnm_no rfl) ?_
    refine e_iast rfl g7 (xnm_no rfl) ?_
    replace h := xlt_b h
    refine e_aload_n rfl rfl (xnb g1) (xnm_no rfl) ?_
    refine e_getR rfl rfl rfl g4 hr6 (xnm_no rfl) ?_
    refine e_iload_n rfl rfl (xnm_no rfl) ?_
    refine e_dup2 rfl rfl rfl (xnm_no rfl) ?_
    obtain ⟨g9, h⟩ := xgd_some h
    refine e_iald rfl g9 (xnm_no rfl) ?_
    refine e_iconst (x := 1) rfl (by decide) (xnm_no rfl) ?_
    refine e_iload_n rfl rfl (xnm_no rfl) ?_
    refine e_ishl rfl (xnm_no rfl) ?_
    refine e_ior rfl (xnm_no rfl) ?_
    refine e_iast rfl g9 (xnm_no rfl) ?_
    replace h := xlt_b h
    cases h
    exact e_retV rfl rfl
set_option maxRecDepth 4000 in
theorem fX7_tellEnd_1_i (v1 : Int64) (v2 : Int32) (m : xmm) {z : xmm} (h : ((fX7_postNamed_1 v1 m).bind fun (w1 : Int32 × xmm) => if w1.1 = (-1 : Int32) then (fX7_refuse_1 (4 : Int32) v2 w1.2).bind fun (w3 : xmm) => some w3 else bX7_tellEnd_1_23 w1.1 (0 : Int32) w1.2) = some z) : fX7_tellEnd_1 v1 v2 m = some z := by
  refine xstV ?_
  show xT 90 3 0 [(0, .ref 1), (1, .long v1), (3, .int v2)] [] m (none, z)
  refine e_aload_n rfl rfl rfl (xnm_no rfl) ?_
  refine e_lload_n rfl rfl (xnm_no rfl) ?_
  obtain ⟨w1, hw2, h⟩ := xbd_some h
  refine e_cIV (hc := hw2) (rest := []) rfl rfl rfl rfl rfl rfl rfl rfl (xnm_no rfl) ?_
  refine e_istore rfl rfl (xnm_no rfl) ?_
  refine e_iload rfl rfl (xnm_no rfl) ?_
  refine e_iconst (x := -1) rfl (by decide) (xnm_no rfl) ?_
  refine e_icmp_ne (t := 20) rfl rfl (xnm_no rfl) (xnm_no rfl) h (fun h => ?_) (fun h => ?_)
  · refine e_iconst (x := 0) rfl (by decide) (xnm_no rfl) ?_
    refine e_istore rfl rfl rfl ?_
    exact xlfV h
  · refine e_aload_n rfl rfl rfl (xnm_no rfl) ?_
    refine e_iconst (x := 4) rfl (by decide) (xnm_no rfl) ?_
    refine e_iload_n rfl rfl (xnm_no rfl) ?_
    obtain ⟨w3, hw4, h⟩ := xbd_some h
    refine e_cVV (hc := hw4) (rest := []) rfl rfl rfl rfl rfl rfl rfl rfl (xnm_no rfl) ?_
    cases h
    exact e_retV rfl rfl
set_option maxRecDepth 4000 in
theorem bX7_tellEnd_1_23_i (v4 : Int32) (v5 : Int32) (m : xmm) {z : xmm} (h : (if (m.1 3 0) ≤ v5 then if (m.1 1 12) = (6 : Int32) then xlt (xwi m 1 13 ((m.1 1 13) ||| ((1 : Int32) <<< (v4 &&& 31)))) fun (m2 : xmm) => some m2 else xlt (xwi m 1 13 ((1 : Int32) <<< (v4 &&& 31))) fun (m1 : xmm) => some m1 else (fX11_contains (m.1 1 13) v5 m).bind fun (w3 : Int32 × xmm) => if w3.1 = 0 then bX7_tellEnd_1_23 v4 (v5 + (1 : Int32)) w3.2 else (fX3_join 3 v5 v4 w3.2).bind fun (w5 : xmm) => bX7_tellEnd_1_23 v4 (v5 + (1 : Int32)) w5) = some z) : bX7_tellEnd_1_23 v4 v5 m = some z := by
  refine xstV ?_
  show xT 90 3 23 [(0, .ref 1), (4, .int v4), (5, .int v5)] [] m (none, z)
  refine e_iload rfl rfl (xnm_no rfl) ?_
  refine e_aload_n rfl rfl rfl (xnm_no rfl) ?_
  refine e_getR (r := 3) rfl rfl rfl rfl rfl (xnm_no rfl) ?_
  refine e_getI rfl rfl rfl rfl (xnm_no rfl) ?_
  refine e_icmp_ge (t := 64) rfl rfl (xnm_no rfl) (xnm_no rfl) h (fun h => ?_) (fun h => ?_)
  · refine e_aload_n rfl rfl rfl (xnm_no rfl) ?_
    refine e_aload_n rfl rfl rfl (xnm_no rfl) ?_
    refine e_getI rfl rfl rfl rfl (xnm_no rfl) ?_
    refine e_bipush (x := 6) rfl (by decide) (xnm_no rfl) ?_
    refine e_icmp_ne (t := 86) rfl rfl (xnm_no rfl) (xnm_no rfl) h (fun h => ?_) (fun h => ?_)
    · refine e_iconst (x := 1) rfl (by decide) (xnm_no rfl) ?_
      refine e_iload rfl rfl (xnm_no rfl) ?_
      refine e_ishl rfl (xnm_no rfl) ?_
      refine e_putI rfl rfl rfl rfl (xnm_no rfl) ?_
      replace h := xlt_b h
      cases h
      exact e_retV rfl rfl
    · refine e_aload_n rfl rfl rfl (xnm_no rfl) ?_
      refine e_getI rfl rfl rfl rfl (xnm_no rfl) ?_
      refine e_iconst (x := 1) rfl (by decide) (xnm_no rfl) ?_
      refine e_iload rfl rfl (xnm_no rfl) ?_
      refine e_ishl rfl (xnm_no rfl) ?_
      refine e_ior rfl (xnm_no rfl) ?_
      refine e_goto (t := 90) rfl rfl (xnm_no rfl) ?_
      refine e_putI rfl rfl rfl rfl (xnm_no rfl) ?_
      replace h := xlt_b h
      cases h
      exact e_retV rfl rfl
  · refine e_aload_n rfl rfl rfl (xnm_no rfl) ?_
    refine e_getI rfl rfl rfl rfl (xnm_no rfl) ?_
    refine e_iload rfl rfl (xnm_no rfl) ?_
    obtain ⟨w3, hw4, h⟩ := xbd_some h
    refine e_cIS (hc := hw4) (rest := []) rfl rfl rfl rfl rfl rfl rfl rfl (xnm_no rfl) ?_
    refine e_if_eq (t := 58) rfl rfl (xnm_no rfl) (xnm_no rfl) h (fun h => ?_) (fun h => ?_)
    · refine e_iinc (y := 1) rfl rfl rfl (by decide) (xnm_no rfl) ?_
      refine e_goto (t := 23) rfl rfl rfl ?_
      exact xlfV h
    · refine e_aload_n rfl rfl rfl (xnm_no rfl) ?_
      refine e_getR (r := 3) rfl rfl rfl rfl rfl (xnm_no rfl) ?_
      refine e_iload rfl rfl (xnm_no rfl) ?_
      refine e_iload rfl rfl (xnm_no rfl) ?_
      obtain ⟨w5, hw6, h⟩ := xbd_some h
      refine e_cVV (hc := hw6) (rest := []) rfl rfl rfl rfl rfl rfl rfl rfl (xnm_no rfl) ?_
      refine e_iinc (y := 1) rfl rfl rfl (by decide) (xnm_no rfl) ?_
      refine e_goto (t := 23) rfl rfl rfl ?_
      exact xlfV h
set_option maxRecDepth 4000 in
theorem fX7_tellPost_1_i (v1 : Int64) (v2 : Int32) (m : xmm) {z : xmm} (h : ((fX7_postNamed_1 v1 m).bind fun (w1 : Int32 × xmm) => if w1.1 = (-1 : Int32) then if (8 : Int32) ≤ (w1.2.1 3 0) then some w1.2 else xgd (xinb 8 (w1.2.1 3 0)) (xlt (xwj w1.2 8 ((w1.2.1 3 0)).toNatClampNeg v1) fun (m4 : xmm) => xlt (xwi m4 3 0 ((m4.1 3 0) + (1 : Int32))) fun (m5 : xmm) => some m5) else (fX7_refuse_1 (3 : Int32) v2 w1.2).bind fun (w6 : xmm) => some w6) = some z) : fX7_tellPost_1 v1 v2 m = some z := by
  refine xstV ?_
  show xT 89 2 0 [(0, .ref 1), (1, .long v1), (3, .int v2)] [] m (none, z)
  refine e_aload_n rfl rfl rfl (xnm_no rfl) ?_
  refine e_lload_n rfl rfl (xnm_no rfl) ?_
  obtain ⟨w1, hw2, h⟩ := xbd_some h
  refine e_cIV (hc := hw2) (rest := []) rfl rfl rfl rfl rfl rfl rfl rfl (xnm_no rfl) ?_
  refine e_iconst (x := -1) rfl (by decide) (xnm_no rfl) ?_
  refine e_icmp_eq (t := 18) rfl rfl (xnm_no rfl) (xnm_no rfl) h (fun h => ?_) (fun h => ?_)
  · refine e_aload_n rfl rfl rfl (xnm_no rfl) ?_
    refine e_getR (r := 3) rfl rfl rfl rfl rfl (xnm_no rfl) ?_
    refine e_getI rfl rfl rfl rfl (xnm_no rfl) ?_
    refine e_bipush (x := 8) rfl (by decide) (xnm_no rfl) ?_
    refine e_icmp_ge (t := 56) rfl rfl (xnm_no rfl) (xnm_no rfl) h (fun h => ?_) (fun h => ?_)
    · cases h
      exact e_retV rfl rfl
    · refine e_aload_n rfl rfl rfl (xnm_no rfl) ?_
      refine e_getR (r := 8) rfl rfl rfl rfl rfl (xnm_no rfl) ?_
      refine e_aload_n rfl rfl rfl (xnm_no rfl) ?_
      refine e_getR (r := 3) rfl rfl rfl rfl rfl (xnm_no rfl) ?_
      refine e_getI rfl rfl rfl rfl (xnm_no rfl) ?_
      refine e_lload_n rfl rfl (xnm_no rfl) ?_
      obtain ⟨g3, h⟩ := xgd_some h
      refine e_last rfl g3 (xnm_no rfl) ?_
      replace h := xlt_b h
      refine e_aload_n rfl rfl rfl (xnm_no rfl) ?_
      refine e_getR (r := 3) rfl rfl rfl rfl rfl (xnm_no rfl) ?_
      refine e_dup rfl rfl (xnm_no rfl) ?_
      refine e_getI rfl rfl rfl rfl (xnm_no rfl) ?_
      refine e_iconst (x := 1) rfl (by decide) (xnm_no rfl) ?_
      refine e_iadd rfl (xnm_no rfl) ?_
      refine e_putI rfl rfl rfl rfl (xnm_no rfl) ?_
      replace h := xlt_b h
      cases h
      exact e_retV rfl rfl
  · refine e_aload_n rfl rfl rfl (xnm_no rfl) ?_
    refine e_iconst (x := 3) rfl (by decide) (xnm_no rfl) ?_
    refine e_iload_n rfl rfl (xnm_no rfl) ?_
    obtain ⟨w6, hw7, h⟩ := xbd_some h
    refine e_cVV (hc := hw7) (rest := []) rfl rfl rfl rfl rfl rfl rfl rfl (xnm_no rfl) ?_
    refine e_goto (t := 56) rfl rfl (xnm_no rfl) ?_
    cases h
    exact e_retV rfl rfl
set_option maxRecDepth 4000 in
theorem fX7_tellPlace_1_i (v1 : Int32) (v2 : Int32) (m : xmm) {z : xmm} (h : (if v1 < 0 then (fX7_refuse_1 (5 : Int32) v2 m).bind fun (w1 : xmm) => some w1 else if v1 < (m.1 3 0) then (fX11_contains (m.1 1 13) v1 m).bind fun (w3 : Int32 × xmm) => if w3.1 = 0 then if (w3.2.1 1 14) < (8 : Int32) then bX7_tellPlace_1_52 v1 (0 : Int32) w3.2 else some w3.2 else (fX7_refuse_1 (3 : Int32) v2 w3.2).bind fun (w5 : xmm) => some w5 else (fX7_refuse_1 (5 : Int32) v2 m).bind fun (w7 : xmm) => some w7) = some z) : fX7_tellPlace_1 v1 v2 m = some z := by
  refine xstV ?_
  show xT 91 3 0 [(0, .ref 1), (1, .int v1), (2, .int v2)] [] m (none, z)
  refine e_iload_n rfl rfl (xnm_no rfl) ?_
  refine e_if_lt (t := 15) rfl rfl (xnm_no rfl) (xnm_no rfl) h (fun h => ?_) (fun h => ?_)
  · refine e_aload_n rfl rfl rfl (xnm_no rfl) ?_
    refine e_iconst (x := 5) rfl (by decide) (xnm_no rfl) ?_
    refine e_iload_n rfl rfl (xnm_no rfl) ?_
    obtain ⟨w1, hw2, h⟩ := xbd_some h
    refine e_cVV (hc := hw2) (rest := []) rfl rfl rfl rfl rfl rfl rfl rfl (xnm_no rfl) ?_
    cases h
    exact e_retV rfl rfl
  · refine e_iload_n rfl rfl (xnm_no rfl) ?_
    refine e_aload_n rfl rfl rfl (xnm_no rfl) ?_
    refine e_getR (r := 3) rfl rfl rfl rfl rfl (xnm_no rfl) ?_
    refine e_getI rfl rfl rfl rfl (xnm_no rfl) ?_
    refine e_icmp_lt (t := 22) rfl rfl (xnm_no rfl) (xnm_no rfl) h (fun h => ?_) (fun h => ?_)
    · refine e_aload_n rfl rfl rfl (xnm_no rfl) ?_
      refine e_getI rfl rfl rfl rfl (xnm_no rfl) ?_
      refine e_iload_n rfl rfl (xnm_no rfl) ?_
      obtain ⟨w3, hw4, h⟩ := xbd_some h
      refine e_cIS (hc := hw4) (rest := []) rfl rfl rfl rfl rfl rfl rfl rfl (xnm_no rfl) ?_
      refine e_if_eq (t := 40) rfl rfl (xnm_no rfl) (xnm_no rfl) h (fun h => ?_) (fun h => ?_)
      · refine e_aload_n rfl rfl rfl (xnm_no rfl) ?_
        refine e_getI rfl rfl rfl rfl (xnm_no rfl) ?_
        refine e_bipush (x := 8) rfl (by decide) (xnm_no rfl) ?_
        refine e_icmp_lt (t := 50) rfl rfl (xnm_no rfl) (xnm_no rfl) h (fun h => ?_) (fun h => ?_)
        · refine e_iconst (x := 0) rfl (by decide) (xnm_no rfl) ?_
          refine e_istore_n rfl rfl rfl ?_
          exact xlfV h
        · cases h
          exact e_retV rfl rfl
      · refine e_aload_n rfl rfl rfl (xnm_no rfl) ?_
        refine e_iconst (x := 3) rfl (by decide) (xnm_no rfl) ?_
        refine e_iload_n rfl rfl (xnm_no rfl) ?_
        obtain ⟨w5, hw6, h⟩ := xbd_some h
        refine e_cVV (hc := hw6) (rest := []) rfl rfl rfl rfl rfl rfl rfl rfl (xnm_no rfl) ?_
        cases h
        exact e_retV rfl rfl
    · refine e_aload_n rfl rfl rfl (xnm_no rfl) ?_
      refine e_iconst (x := 5) rfl (by decide) (xnm_no rfl) ?_
      refine e_iload_n rfl rfl (xnm_no rfl) ?_
      obtain ⟨w7, hw8, h⟩ := xbd_some h
      refine e_cVV (hc := hw8) (rest := []) rfl rfl rfl rfl rfl rfl rfl rfl (xnm_no rfl) ?_
      cases h
      exact e_retV rfl rfl
set_option maxRecDepth 4000 in
theorem bX7_tellPlace_1_52_i (v1 : Int32) (v3 : Int32) (m : xmm) {z : xmm} (h : (if (m.1 1 14) ≤ v3 then xgd (xinb 8 (m.1 1 14)) (xlt (xwi m 9 ((m.1 1 14)).toNatClampNeg v1) fun (m2 : xmm) => xlt (xwi m2 1 14 ((m2.1 1 14) + (1 : Int32))) fun (m3 : xmm) => xlt (xwi m3 1 13 ((m3.1 1 13) ||| ((1 : Int32) <<< (v1 &&& 31)))) fun (m4 : xmm) => some m4) else xgd (xinb 8 v3) (if (m.1 9 (v3).toNatClampNeg) ≤ v1 then bX7_tellPlace_1_52 v1 (v3 + (1 : Int32)) m else (fX3_join 3 v3 (m.1 1 14) m).bind fun (w6 : xmm) => bX7_tellPlace_1_52 v1 (v3 + (1 : Int32)) w6)) = some z) : bX7_tellPlace_1_52 v1 v3 m = some z := by
  refine xstV ?_
  show xT 91 3 52 [(0, .ref 1), (1, .int v1), (3, .int v3)] [] m (none, z)
  refine e_iload_n rfl rfl (xnm_no rfl) ?_
  refine e_aload_n rfl rfl rfl (xnm_no rfl) ?_
  refine e_getI rfl rfl rfl rfl (xnm_no rfl) ?_
  refine e_icmp_ge (t := 88) rfl rfl (xnm_no rfl) (xnm_no rfl) h (fun h => ?_) (fun h => ?_)
  · refine e_aload_n rfl rfl rfl (xnm_no rfl) ?_
    refine e_getR (r := 9) rfl rfl rfl rfl rfl (xnm_no rfl) ?_
    refine e_aload_n rfl rfl rfl (xnm_no rfl) ?_
    refine e_getI rfl rfl rfl rfl (xnm_no rfl) ?_
    refine e_iload_n rfl rfl (xnm_no rfl) ?_
    obtain ⟨g1, h⟩ := xgd_some h
    refine e_iast rfl g1 (xnm_no rfl) ?_
    replace h := xlt_b h
    refine e_aload_n rfl rfl rfl (xnm_no rfl) ?_
    refine e_dup rfl rfl (xnm_no rfl) ?_
    refine e_getI rfl rfl rfl rfl (xnm_no rfl) ?_
    refine e_iconst (x := 1) rfl (by decide) (xnm_no rfl) ?_
    refine e_iadd rfl (xnm_no rfl) ?_
    refine e_putI rfl rfl rfl rfl (xnm_no rfl) ?_
    replace h := xlt_b h
    refine e_aload_n rfl rfl rfl (xnm_no rfl) ?_
    refine e_dup rfl rfl (xnm_no rfl) ?_
    refine e_getI rfl rfl rfl rfl (xnm_no rfl) ?_
    refine e_iconst (x := 1) rfl (by decide) (xnm_no rfl) ?_
    refine e_iload_n rfl rfl (xnm_no rfl) ?_
    refine e_ishl rfl (xnm_no rfl) ?_
    refine e_ior rfl (xnm_no rfl) ?_
    refine e_putI rfl rfl rfl rfl (xnm_no rfl) ?_
    replace h := xlt_b h
    cases h
    exact e_retV rfl rfl
  · refine e_aload_n rfl rfl rfl (xnm_no rfl) ?_
    refine e_getR (r := 9) rfl rfl rfl rfl rfl (xnm_no rfl) ?_
    refine e_iload_n rfl rfl (xnm_no rfl) ?_
    obtain ⟨g5, h⟩ := xgd_some h
    refine e_iald rfl g5 (xnm_no rfl) ?_
    refine e_iload_n rfl rfl (xnm_no rfl) ?_
    refine e_icmp_le (t := 82) rfl rfl (xnm_no rfl) (xnm_no rfl) h (fun h => ?_) (fun h => ?_)
    · refine e_iinc (y := 1) rfl rfl rfl (by decide) (xnm_no rfl) ?_
      refine e_goto (t := 52) rfl rfl rfl ?_
      exact xlfV h
    · refine e_aload_n rfl rfl rfl (xnm_no rfl) ?_
      refine e_getR (r := 3) rfl rfl rfl rfl rfl (xnm_no rfl) ?_
      refine e_iload_n rfl rfl (xnm_no rfl) ?_
      refine e_aload_n rfl rfl rfl (xnm_no rfl) ?_
      refine e_getI rfl rfl rfl rfl (xnm_no rfl) ?_
      obtain ⟨w6, hw7, h⟩ := xbd_some h
      refine e_cVV (hc := hw7) (rest := []) rfl rfl rfl rfl rfl rfl rfl rfl (xnm_no rfl) ?_
      refine e_iinc (y := 1) rfl rfl rfl (by decide) (xnm_no rfl) ?_
      refine e_goto (t := 52) rfl rfl rfl ?_
      exact xlfV h
set_option maxRecDepth 4000 in
theorem fX7_tell_1_i (v1 : Int32) (v2 : Int64) (v3 : Int32) (m : xmm) {z : xmm} (h : (if v1 = 1 then if (m.1 1 12) = (4 : Int32) then (fX7_tellPost_1 v2 v3 m).bind fun (w4 : xmm) => some w4 else (fX7_tellEnd_1 v2 v3 m).bind fun (w2 : xmm) => some w2 else if v1 = 2 then (fX7_tellPlace_1 (Int64.toInt32 v2) v3 m).bind fun (w7 : xmm) => some w7 else if v1 = 3 then if (m.1 1 12) = (7 : Int32) then if (m.1 3 0) ≤ (m.1 1 14) then some m else (fX7_refuse_1 (6 : Int32) v3 m).bind fun (w10 : xmm) => some w10 else some m else xlt (xwi m 1 12 v1) fun (m12 : xmm) => xlt (xwi m12 1 13 (0 : Int32)) fun (m13 : xmm) => xlt (xwi m13 1 14 (0 : Int32)) fun (m14 : xmm) => some m14) = some z) : fX7_tell_1 v1 v2 v3 m = some z := by
  refine xstV ?_
  show xT 87 4 0 [(0, .ref 1), (1, .int v1), (2, .long v2), (4, .int v3)] [] m (none, z)
  refine e_iload_n rfl rfl (xnm_no rfl) ?_
  by_cases c1 : v1 = 1
  · rw [if_pos c1] at h
    refine e_sw (t := 28) (o := 27) rfl (by decide) (xsw_p c1) rfl (xnm_no rfl) ?_
    refine e_aload_n rfl rfl rfl (xnm_no rfl) ?_
    refine e_getI rfl rfl rfl rfl (xnm_no rfl) ?_
    refine e_iconst (x := 4) rfl (by decide) (xnm_no rfl) ?_
    refine e_icmp_ne (t := 46) rfl rfl (xnm_no rfl) (xnm_no rfl) h (fun h => ?_) (fun h => ?_)
    · refine e_aload_n rfl rfl rfl (xnm_no rfl) ?_
      refine e_lload_n rfl rfl (xnm_no rfl) ?_
      refine e_iload rfl rfl (xnm_no rfl) ?_
      obtain ⟨w2, hw3, h⟩ := xbd_some h
      refine e_cVV (hc := hw3) (rest := []) rfl rfl rfl rfl rfl rfl rfl rfl (xnm_no rfl) ?_
      refine e_goto (t := 116) rfl rfl (xnm_no rfl) ?_
      cases h
      exact e_retV rfl rfl
    · refine e_aload_n rfl rfl rfl (xnm_no rfl) ?_
      refine e_lload_n rfl rfl (xnm_no rfl) ?_
      refine e_iload rfl rfl (xnm_no rfl) ?_
      obtain ⟨w4, hw5, h⟩ := xbd_some h
      refine e_cVV (hc := hw5) (rest := []) rfl rfl rfl rfl rfl rfl rfl rfl (xnm_no rfl) ?_
      refine e_goto (t := 116) rfl rfl (xnm_no rfl) ?_
      cases h
      exact e_retV rfl rfl
  · rw [if_neg c1] at h
    by_cases c6 : v1 = 2
    · rw [if_pos c6] at h
      refine e_sw (t := 56) (o := 55) rfl (by decide) (xsw_n c1 (xsw_p c6)) rfl (xnm_no rfl) ?_
      refine e_aload_n rfl rfl rfl (xnm_no rfl) ?_
      refine e_lload_n rfl rfl (xnm_no rfl) ?_
      refine e_l2i rfl (xnm_no rfl) ?_
      refine e_iload rfl rfl (xnm_no rfl) ?_
      obtain ⟨w7, hw8, h⟩ := xbd_some h
      refine e_cVV (hc := hw8) (rest := []) rfl rfl rfl rfl rfl rfl rfl rfl (xnm_no rfl) ?_
      refine e_goto (t := 116) rfl rfl (xnm_no rfl) ?_
      cases h
      exact e_retV rfl rfl
    · rw [if_neg c6] at h
      by_cases c9 : v1 = 3
      · rw [if_pos c9] at h
        refine e_sw (t := 67) (o := 66) rfl (by decide) (xsw_n c1 (xsw_n c6 (xsw_p c9))) rfl (xnm_no rfl) ?_
        refine e_aload_n rfl rfl rfl (xnm_no rfl) ?_
        refine e_getI rfl rfl rfl rfl (xnm_no rfl) ?_
        refine e_bipush (x := 7) rfl (by decide) (xnm_no rfl) ?_
        refine e_icmp_ne (t := 116) rfl rfl (xnm_no rfl) (xnm_no rfl) h (fun h => ?_) (fun h => ?_)
        · cases h
          exact e_retV rfl rfl
        · refine e_aload_n rfl rfl rfl (xnm_no rfl) ?_
          refine e_getI rfl rfl rfl rfl (xnm_no rfl) ?_
          refine e_aload_n rfl rfl rfl (xnm_no rfl) ?_
          refine e_getR (r := 3) rfl rfl rfl rfl rfl (xnm_no rfl) ?_
          refine e_getI rfl rfl rfl rfl (xnm_no rfl) ?_
          refine e_icmp_ge (t := 116) rfl rfl (xnm_no rfl) (xnm_no rfl) h (fun h => ?_) (fun h => ?_)
          · cases h
            exact e_retV rfl rfl
          · refine e_aload_n rfl rfl rfl (xnm_no rfl) ?_
            refine e_bipush (x := 6) rfl (by decide) (xnm_no rfl) ?_
            refine e_iload rfl rfl (xnm_no rfl) ?_
            obtain ⟨w10, hw11, h⟩ := xbd_some h
            refine e_cVV (hc := hw11) (rest := []) rfl rfl rfl rfl rfl rfl rfl rfl (xnm_no rfl) ?_
            refine e_goto (t := 116) rfl rfl (xnm_no rfl) ?_
            cases h
            exact e_retV rfl rfl
      · rw [if_neg c9] at h
        refine e_sw (t := 101) (o := 100) rfl (by decide) (xsw_n c1 (xsw_n c6 (xsw_n c9 xsw_d))) rfl (xnm_no rfl) ?_
        refine e_aload_n rfl rfl rfl (xnm_no rfl) ?_
        refine e_iload_n rfl rfl (xnm_no rfl) ?_
        refine e_putI rfl rfl rfl rfl (xnm_no rfl) ?_
        replace h := xlt_b h
        refine e_aload_n rfl rfl rfl (xnm_no rfl) ?_
        refine e_iconst (x := 0) rfl (by decide) (xnm_no rfl) ?_
        refine e_putI rfl rfl rfl rfl (xnm_no rfl) ?_
        replace h := xlt_b h
        refine e_aload_n rfl rfl rfl (xnm_no rfl) ?_
        refine e_iconst (x := 0) rfl (by decide) (xnm_no rfl) ?_
        refine e_putI rfl rfl rfl rfl (xnm_no rfl) ?_
        replace h := xlt_b h
        cases h
        exact e_retV rfl rfl
set_option maxRecDepth 4000 in
theorem fX7_readText_1_i (m : xmm) {z : xmm} (h : (xlt (xwi m 1 2 (0 : Int32)) fun (m1 : xmm) => xlt (xwi m1 1 3 (-1 : Int32)) fun (m2 : xmm) => (fX7_checkForm_1 m2).bind fun (w3 : xmm) => (fX3_clear 3 w3).bind fun (w5 : xmm) => bX7_readText_1_23 (0 : Int32) w5) = some z) : fX7_readText_1 m = some z := by
  refine xstV ?_
  show xT 72 8 0 [(0, .ref 1)] [] m (none, z)
  refine e_aload_n rfl rfl rfl (xnm_no rfl) ?_
  refine e_iconst (x := 0) rfl (by decide) (xnm_no rfl) ?_
  refine e_putI rfl rfl rfl rfl (xnm_no rfl) ?_
  replace h := xlt_b h
  refine e_aload_n rfl rfl rfl (xnm_no rfl) ?_
  refine e_iconst (x := -1) rfl (by decide) (xnm_no rfl) ?_
  refine e_putI rfl rfl rfl rfl (xnm_no rfl) ?_
  replace h := xlt_b h
  refine e_aload_n rfl rfl rfl (xnm_no rfl) ?_
  obtain ⟨w3, hw4, h⟩ := xbd_some h
  refine e_cVV (hc := hw4) (rest := []) rfl rfl rfl rfl rfl rfl rfl rfl (xnm_no rfl) ?_
  refine e_aload_n rfl rfl rfl (xnm_no rfl) ?_
  refine e_getR (r := 3) rfl rfl rfl rfl rfl (xnm_no rfl) ?_
  obtain ⟨w5, hw6, h⟩ := xbd_some h
  refine e_cVV (hc := hw6) (rest := []) rfl rfl rfl rfl rfl rfl rfl rfl (xnm_no rfl) ?_
  refine e_iconst (x := 0) rfl (by decide) (xnm_no rfl) ?_
  refine e_istore_n rfl rfl rfl ?_
  exact xlfV h
set_option maxRecDepth 4000 in
theorem bX7_readText_1_23_i (v1 : Int32) (m : xmm) {z : xmm} (h : (if (m.1 1 8) ≤ v1 then xlt (xwi m 1 1 (0 : Int32)) fun (m1 : xmm) => some m1 else if (m.1 1 2) = 0 then xgd (xinb 400 v1) ((fX7_tell_1 (m.1 5 (v1).toNatClampNeg) (m.2 7 (v1).toNatClampNeg) (m.1 6 (v1).toNatClampNeg) m).bind fun (w4 : xmm) => bX7_readText_1_23 (v1 + (1 : Int32)) w4) else xlt (xwi m 1 1 (0 : Int32)) fun (m2 : xmm) => some m2) = some z) : bX7_readText_1_23 v1 m = some z := by
  refine xstV ?_
  show xT 72 8 23 [(0, .ref 1), (1, .int v1)] [] m (none, z)
  refine e_iload_n rfl rfl (xnm_no rfl) ?_
  refine e_aload_n rfl rfl rfl (xnm_no rfl) ?_
  refine e_getI rfl rfl rfl rfl (xnm_no rfl) ?_
  refine e_icmp_ge (t := 66) rfl rfl (xnm_no rfl) (xnm_no rfl) h (fun h => ?_) (fun h => ?_)
  · refine e_aload_n rfl rfl rfl (xnm_no rfl) ?_
    refine e_iconst (x := 0) rfl (by decide) (xnm_no rfl) ?_
    refine e_putI rfl rfl rfl rfl (xnm_no rfl) ?_
    replace h := xlt_b h
    cases h
    exact e_retV rfl rfl
  · refine e_aload_n rfl rfl rfl (xnm_no rfl) ?_
    refine e_getI rfl rfl rfl rfl (xnm_no rfl) ?_
    refine e_if_ne (t := 66) rfl rfl (xnm_no rfl) (xnm_no rfl) h (fun h => ?_) (fun h => ?_)
    · refine e_aload_n rfl rfl rfl (xnm_no rfl) ?_
      refine e_iconst (x := 0) rfl (by decide) (xnm_no rfl) ?_
      refine e_putI rfl rfl rfl rfl (xnm_no rfl) ?_
      replace h := xlt_b h
      cases h
      exact e_retV rfl rfl
    · refine e_aload_n rfl rfl rfl (xnm_no rfl) ?_
      refine e_aload_n rfl rfl rfl (xnm_no rfl) ?_
      refine e_getR (r := 5) rfl rfl rfl rfl rfl (xnm_no rfl) ?_
      refine e_iload_n rfl rfl (xnm_no rfl) ?_
      obtain ⟨g3, h⟩ := xgd_some h
      refine e_iald rfl g3 (xnm_no rfl) ?_
      refine e_aload_n rfl rfl rfl (xnm_no rfl) ?_
      refine e_getR (r := 7) rfl rfl rfl rfl rfl (xnm_no rfl) ?_
      refine e_iload_n rfl rfl (xnm_no rfl) ?_
      refine e_lald rfl g3 (xnm_no rfl) ?_
      refine e_aload_n rfl rfl rfl (xnm_no rfl) ?_
      refine e_getR (r := 6) rfl rfl rfl rfl rfl (xnm_no rfl) ?_
      refine e_iload_n rfl rfl (xnm_no rfl) ?_
      refine e_iald rfl g3 (xnm_no rfl) ?_
      obtain ⟨w4, hw5, h⟩ := xbd_some h
      refine e_cVV (hc := hw5) (rest := []) rfl rfl rfl rfl rfl rfl rfl rfl (xnm_no rfl) ?_
      refine e_iinc (y := 1) rfl rfl rfl (by decide) (xnm_no rfl) ?_
      refine e_goto (t := 23) rfl rfl rfl ?_
      exact xlfV h
set_option maxRecDepth 4000 in
theorem fX4_forget_14_i (m : xmm) {z : xmm} (h : (xlt (xwi m 14 2 (0 : Int32)) fun (m1 : xmm) => some m1) = some z) : fX4_forget_14 m = some z := by
  refine xstV ?_
  show xT 41 0 0 [(0, .ref 14)] [] m (none, z)
  refine e_aload_n rfl rfl rfl (xnm_no rfl) ?_
  refine e_iconst (x := 0) rfl (by decide) (xnm_no rfl) ?_
  refine e_putI rfl rfl rfl rfl (xnm_no rfl) ?_
  replace h := xlt_b h
  cases h
  exact e_retV rfl rfl
set_option maxRecDepth 4000 in
theorem fX11_read_0_i (m : xmm) {z : Int32 × xmm} (h : ((fX7_readText_1 m).bind fun (w1 : xmm) => if (w1.1 1 2) = 0 then (fX3_copyFrom 10 3 w1).bind fun (w3 : xmm) => xlt (xwi w3 0 6 (0 : Int32)) fun (m5 : xmm) => (fX4_forget_14 m5).bind fun (w6 : xmm) => xlt (xwi w6 0 5 (0 : Int32)) fun (m8 : xmm) => some ((m8.1 1 2), m8) else some ((w1.1 1 2), w1)) = some z) : fX11_read_0 m = some z := by
  refine xstI ?_
  show xT 117 9 0 [(0, .ref 0)] [] m (some (.int z.1), z.2)
  refine e_aload_n rfl rfl rfl (xnm_no rfl) ?_
  refine e_getR (r := 1) rfl rfl rfl rfl rfl (xnm_no rfl) ?_
  obtain ⟨w1, hw2, h⟩ := xbd_some h
  refine e_cVV (hc := hw2) (rest := []) rfl rfl rfl rfl rfl rfl rfl rfl (xnm_no rfl) ?_
  refine e_aload_n rfl rfl rfl (xnm_no rfl) ?_
  refine e_getR (r := 1) rfl rfl rfl rfl rfl (xnm_no rfl) ?_
  refine e_getI rfl rfl rfl rfl (xnm_no rfl) ?_
  refine e_if_ne (t := 48) rfl rfl (xnm_no rfl) (xnm_no rfl) h (fun h => ?_) (fun h => ?_)
  · refine e_aload_n rfl rfl rfl (xnm_no rfl) ?_
    refine e_getR (r := 1) rfl rfl rfl rfl rfl (xnm_no rfl) ?_
    refine e_getI rfl rfl rfl rfl (xnm_no rfl) ?_
    cases h
    exact e_retI rfl rfl
  · refine e_aload_n rfl rfl rfl (xnm_no rfl) ?_
    refine e_getR (r := 10) rfl rfl rfl rfl rfl (xnm_no rfl) ?_
    refine e_aload_n rfl rfl rfl (xnm_no rfl) ?_
    refine e_getR (r := 1) rfl rfl rfl rfl rfl (xnm_no rfl) ?_
    refine e_getR (r := 3) rfl rfl rfl rfl rfl (xnm_no rfl) ?_
    obtain ⟨w3, hw4, h⟩ := xbd_some h
    refine e_cVV (hc := hw4) (rest := []) rfl rfl rfl rfl rfl rfl rfl rfl (xnm_no rfl) ?_
    refine e_aload_n rfl rfl rfl (xnm_no rfl) ?_
    refine e_iconst (x := 0) rfl (by decide) (xnm_no rfl) ?_
    refine e_putI rfl rfl (by decide) rfl (xnm_no rfl) ?_
    replace h := xlt_b h
    refine e_aload_n rfl rfl rfl (xnm_no rfl) ?_
    refine e_getR (r := 14) rfl rfl rfl rfl rfl (xnm_no rfl) ?_
    obtain ⟨w6, hw7, h⟩ := xbd_some h
    refine e_cVV (hc := hw7) (rest := []) rfl rfl rfl rfl rfl rfl rfl rfl (xnm_no rfl) ?_
    refine e_aload_n rfl rfl rfl (xnm_no rfl) ?_
    refine e_iconst (x := 0) rfl (by decide) (xnm_no rfl) ?_
    refine e_putI rfl rfl rfl rfl (xnm_no rfl) ?_
    replace h := xlt_b h
    refine e_aload_n rfl rfl rfl (xnm_no rfl) ?_
    refine e_getR (r := 1) rfl rfl rfl rfl rfl (xnm_no rfl) ?_
    refine e_getI rfl rfl rfl rfl (xnm_no rfl) ?_
    cases h
    exact e_retI rfl rfl
set_option maxRecDepth 4000 in
theorem fX11_hold_0_i (v1 : Int32) (m : xmm) {z : Int32 × xmm} (h : (if v1 < 0 then some ((0 : Int32), m) else if v1 < (3 : Int32) then xgd (xinb 3 v1) (xgr (xR0 96 (v1).toNatClampNeg) fun r2 => (fX3_copyFrom r2 10 m).bind fun (w4 : xmm) => xgd (xob r2 3) (xlt (xwi w4 0 5 ((w4.1 0 5) ||| ((1 : Int32) <<< (v1 &&& 31)))) fun (m7 : xmm) => some ((1 : Int32), m7))) else some ((0 : Int32), m)) = some z) : fX11_hold_0 v1 m = some z := by
  refine xstI ?_
  show xT 140 1 0 [(0, .ref 0), (1, .int v1)] [] m (some (.int z.1), z.2)
  refine e_iload_n rfl rfl (xnm_no rfl) ?_
  refine e_if_lt (t := 9) rfl rfl (xnm_no rfl) (xnm_no rfl) h (fun h => ?_) (fun h => ?_)
  · refine e_iconst (x := 0) rfl (by decide) (xnm_no rfl) ?_
    cases h
    exact e_retI rfl (by decide)
  · refine e_iload_n rfl rfl (xnm_no rfl) ?_
    refine e_iconst (x := 3) rfl (by decide) (xnm_no rfl) ?_
    refine e_icmp_lt (t := 11) rfl rfl (xnm_no rfl) (xnm_no rfl) h (fun h => ?_) (fun h => ?_)
    · refine e_aload_n rfl rfl rfl (xnm_no rfl) ?_
      refine e_getR (r := 96) rfl rfl rfl rfl rfl (xnm_no rfl) ?_
      refine e_iload_n rfl rfl (xnm_no rfl) ?_
      obtain ⟨g1, h⟩ := xgd_some h
      obtain ⟨r2, hr3, h⟩ := xgr_some h
      refine e_aald rfl g1 rfl hr3 (xnm_no rfl) ?_
      refine e_aload_n rfl rfl rfl (xnm_no rfl) ?_
      refine e_getR (r := 10) rfl rfl rfl rfl rfl (xnm_no rfl) ?_
      obtain ⟨w4, hw5, h⟩ := xbd_some h
      obtain ⟨g6, h⟩ := xgd_some h
      refine e_cVV (hc := hw5) (rest := []) rfl rfl rfl rfl rfl (xorb g6) rfl rfl (xnm_no rfl) ?_
      refine e_aload_n rfl rfl rfl (xnm_no rfl) ?_
      refine e_dup rfl rfl (xnm_no rfl) ?_
      refine e_getI rfl rfl rfl rfl (xnm_no rfl) ?_
      refine e_iconst (x := 1) rfl (by decide) (xnm_no rfl) ?_
      refine e_iload_n rfl rfl (xnm_no rfl) ?_
      refine e_ishl rfl (xnm_no rfl) ?_
      refine e_ior rfl (xnm_no rfl) ?_
      refine e_putI rfl rfl rfl rfl (xnm_no rfl) ?_
      replace h := xlt_b h
      refine e_iconst (x := 1) rfl (by decide) (xnm_no rfl) ?_
      cases h
      exact e_retI rfl (by decide)
    · refine e_iconst (x := 0) rfl (by decide) (xnm_no rfl) ?_
      cases h
      exact e_retI rfl (by decide)
set_option maxRecDepth 4000 in
theorem fX3_rowOf_i (v0 : Nat) (v1 : Int32) (m : xmm) {z : Int32 × xmm} (h : (xgd (!(Nat.beq v0 1999)) ((fX3_hasPost v0 v1 m).bind fun (w2 : Int32 × xmm) => xgd (xob v0 3) (if w2.1 = 0 then some ((0 : Int32), w2.2) else xgr (xR0 v0 2) fun r5 => xgd (xia 1 r5 v1) (some ((w2.2.1 r5 (v1).toNatClampNeg), w2.2))))) = some z) : fX3_rowOf v0 v1 m = some z := by
  refine xstI ?_
  show xT 27 1 0 [(0, .ref v0), (1, .int v1)] [] m (some (.int z.1), z.2)
  obtain ⟨g1, h⟩ := xgd_some h
  refine e_aload_n rfl rfl (xnb g1) (xnm_no rfl) ?_
  refine e_iload_n rfl rfl (xnm_no rfl) ?_
  obtain ⟨w2, hw3, h⟩ := xbd_some h
  obtain ⟨g4, h⟩ := xgd_some h
  refine e_cIV (hc := hw3) (rest := []) rfl rfl rfl rfl rfl (xorb g4) rfl rfl (xnm_no rfl) ?_
  refine e_if_eq (t := 17) rfl rfl (xnm_no rfl) (xnm_no rfl) h (fun h => ?_) (fun h => ?_)
  · refine e_iconst (x := 0) rfl (by decide) (xnm_no rfl) ?_
    cases h
    exact e_retI rfl rfl
  · refine e_aload_n rfl rfl (xnb g1) (xnm_no rfl) ?_
    obtain ⟨r5, hr6, h⟩ := xgr_some h
    refine e_getR rfl rfl rfl g4 hr6 (xnm_no rfl) ?_
    refine e_iload_n rfl rfl (xnm_no rfl) ?_
    obtain ⟨g7, h⟩ := xgd_some h
    refine e_iald rfl g7 (xnm_no rfl) ?_
    refine e_goto (t := 18) rfl rfl (xnm_no rfl) ?_
    cases h
    exact e_retI rfl rfl
set_option maxRecDepth 4000 in
theorem fX11_near_0_i (v1 : Int32) (m : xmm) {z : Int32 × xmm} (h : ((fX3_hasPost 10 v1 m).bind fun (w1 : Int32 × xmm) => if w1.1 = 0 then some ((-1 : Int32), w1.2) else (fX3_rowOf 10 v1 w1.2).bind fun (w3 : Int32 × xmm) => some (w3.1, w3.2)) = some z) : fX11_near_0 v1 m = some z := by
  refine xstI ?_
  show xT 126 2 0 [(0, .ref 0), (1, .int v1)] [] m (some (.int z.1), z.2)
  refine e_aload_n rfl rfl rfl (xnm_no rfl) ?_
  refine e_getR (r := 10) rfl rfl rfl rfl rfl (xnm_no rfl) ?_
  refine e_iload_n rfl rfl (xnm_no rfl) ?_
  obtain ⟨w1, hw2, h⟩ := xbd_some h
  refine e_cIV (hc := hw2) (rest := []) rfl rfl rfl rfl rfl rfl rfl rfl (xnm_no rfl) ?_
  refine e_if_eq (t := 22) rfl rfl (xnm_no rfl) (xnm_no rfl) h (fun h => ?_) (fun h => ?_)
  · refine e_iconst (x := -1) rfl (by decide) (xnm_no rfl) ?_
    cases h
    exact e_retI rfl rfl
  · refine e_aload_n rfl rfl rfl (xnm_no rfl) ?_
    refine e_getR (r := 10) rfl rfl rfl rfl rfl (xnm_no rfl) ?_
    refine e_iload_n rfl rfl (xnm_no rfl) ?_
    obtain ⟨w3, hw4, h⟩ := xbd_some h
    refine e_cIV (hc := hw4) (rest := []) rfl rfl rfl rfl rfl rfl rfl rfl (xnm_no rfl) ?_
    refine e_goto (t := 23) rfl rfl (xnm_no rfl) ?_
    cases h
    exact e_retI rfl rfl
set_option maxRecDepth 4000 in
theorem fX5_levelOf_123_i (v1 : Int32) (m : xmm) {z : Int32 × xmm} (h : (xgd (xinb 8 v1) (some ((m.1 126 (v1).toNatClampNeg), m))) = some z) : fX5_levelOf_123 v1 m = some z := by
  refine xstI ?_
  show xT 48 0 0 [(0, .ref 123), (1, .int v1)] [] m (some (.int z.1), z.2)
  refine e_aload_n rfl rfl rfl (xnm_no rfl) ?_
  refine e_getR (r := 126) rfl rfl rfl rfl rfl (xnm_no rfl) ?_
  refine e_iload_n rfl rfl (xnm_no rfl) ?_
  obtain ⟨g1, h⟩ := xgd_some h
  refine e_iald rfl g1 (xnm_no rfl) ?_
  cases h
  exact e_retI rfl rfl
set_option maxRecDepth 4000 in
theorem fX5_belowOf_123_i (v1 : Int32) (m : xmm) {z : Int32 × xmm} (h : (xgd (xinb 8 v1) (some ((m.1 125 (v1).toNatClampNeg), m))) = some z) : fX5_belowOf_123 v1 m = some z := by
  refine xstI ?_
  show xT 49 0 0 [(0, .ref 123), (1, .int v1)] [] m (some (.int z.1), z.2)
  refine e_aload_n rfl rfl rfl (xnm_no rfl) ?_
  refine e_getR (r := 125) rfl rfl rfl rfl rfl (xnm_no rfl) ?_
  refine e_iload_n rfl rfl (xnm_no rfl) ?_
  obtain ⟨g1, h⟩ := xgd_some h
  refine e_iald rfl g1 (xnm_no rfl) ?_
  cases h
  exact e_retI rfl rfl
set_option maxRecDepth 4000 in
theorem fX5_aboveOf_123_i (v1 : Int32) (m : xmm) {z : Int32 × xmm} (h : (xgd (xinb 8 v1) (some ((m.1 124 (v1).toNatClampNeg), m))) = some z) : fX5_aboveOf_123 v1 m = some z := by
  refine xstI ?_
  show xT 50 0 0 [(0, .ref 123), (1, .int v1)] [] m (some (.int z.1), z.2)
  refine e_aload_n rfl rfl rfl (xnm_no rfl) ?_
  refine e_getR (r := 124) rfl rfl rfl rfl rfl (xnm_no rfl) ?_
  refine e_iload_n rfl rfl (xnm_no rfl) ?_
  obtain ⟨g1, h⟩ := xgd_some h
  refine e_iald rfl g1 (xnm_no rfl) ?_
  cases h
  exact e_retI rfl rfl
set_option maxRecDepth 4000 in
theorem fX5_straightAt_123_i (v1 : Int32) (v2 : Int32) (m : xmm) {z : Int32 × xmm} (h : (if v1 < 0 then some ((-1 : Int32), m) else if v1 < (m.1 127 0) then bX5_straightAt_123_27 v2 v1 (0 : Int32) (-1 : Int32) (0 : Int32) m else some ((-1 : Int32), m)) = some z) : fX5_straightAt_123 v1 v2 m = some z := by
  refine xstI ?_
  show xT 55 2 0 [(0, .ref 123), (1, .int v1), (2, .int v2)] [] m (some (.int z.1), z.2)
  refine e_iload_n rfl rfl (xnm_no rfl) ?_
  refine e_if_lt (t := 14) rfl rfl (xnm_no rfl) (xnm_no rfl) h (fun h => ?_) (fun h => ?_)
  · refine e_iconst (x := -1) rfl (by decide) (xnm_no rfl) ?_
    cases h
    exact e_retI rfl rfl
  · refine e_iload_n rfl rfl (xnm_no rfl) ?_
    refine e_aload_n rfl rfl rfl (xnm_no rfl) ?_
    refine e_getR (r := 127) rfl rfl rfl rfl rfl (xnm_no rfl) ?_
    refine e_iconst (x := 0) rfl (by decide) (xnm_no rfl) ?_
    refine e_iald rfl (by decide) (xnm_no rfl) ?_
    refine e_icmp_lt (t := 16) rfl rfl (xnm_no rfl) (xnm_no rfl) h (fun h => ?_) (fun h => ?_)
    · refine e_iload_n rfl rfl (xnm_no rfl) ?_
      refine e_istore_n rfl rfl (xnm_no rfl) ?_
      refine e_iconst (x := 0) rfl (by decide) (xnm_no rfl) ?_
      refine e_istore rfl rfl (xnm_no rfl) ?_
      refine e_iconst (x := -1) rfl (by decide) (xnm_no rfl) ?_
      refine e_istore rfl rfl (xnm_no rfl) ?_
      refine e_iconst (x := 0) rfl (by decide) (xnm_no rfl) ?_
      refine e_istore rfl rfl rfl ?_
      exact xlfI h
    · refine e_iconst (x := -1) rfl (by decide) (xnm_no rfl) ?_
      cases h
      exact e_retI rfl rfl
set_option maxRecDepth 4000 in
theorem bX5_straightAt_123_27_i (v2 : Int32) (v3 : Int32) (v4 : Int32) (v5 : Int32) (v6 : Int32) (m : xmm) {z : Int32 × xmm} (h : (if v2 < v6 then some (v5, m) else if (m.1 123 6) ≤ v6 then some (v5, m) else bX5_straightAt_123_45 v2 v3 v4 v5 v6 (0 : Int32) m) = some z) : bX5_straightAt_123_27 v2 v3 v4 v5 v6 m = some z := by
  refine xstI ?_
  show xT 55 2 27 [(0, .ref 123), (2, .int v2), (3, .int v3), (4, .int v4), (5, .int v5), (6, .int v6)] [] m (some (.int z.1), z.2)
  refine e_iload rfl rfl (xnm_no rfl) ?_
  refine e_iload_n rfl rfl (xnm_no rfl) ?_
  refine e_icmp_gt (t := 124) rfl rfl (xnm_no rfl) (xnm_no rfl) h (fun h => ?_) (fun h => ?_)
  · refine e_iload rfl rfl (xnm_no rfl) ?_
    cases h
    exact e_retI rfl rfl
  · refine e_iload rfl rfl (xnm_no rfl) ?_
    refine e_aload_n rfl rfl rfl (xnm_no rfl) ?_
    refine e_getI rfl rfl rfl rfl (xnm_no rfl) ?_
    refine e_icmp_ge (t := 124) rfl rfl (xnm_no rfl) (xnm_no rfl) h (fun h => ?_) (fun h => ?_)
    · refine e_iload rfl rfl (xnm_no rfl) ?_
      cases h
      exact e_retI rfl rfl
    · refine e_iconst (x := 0) rfl (by decide) (xnm_no rfl) ?_
      refine e_istore rfl rfl rfl ?_
      exact xlfI h
set_option maxRecDepth 4000 in
theorem bX5_straightAt_123_45_i (v2 : Int32) (v3 : Int32) (v4 : Int32) (v5 : Int32) (v6 : Int32) (v7 : Int32) (m : xmm) {z : Int32 × xmm} (h : (if (m.1 123 6) ≤ v7 then bX5_straightAt_123_109 v2 v3 v4 v5 v6 m else (fX5_isNext_123 v4 v7 m).bind fun (w1 : Int32 × xmm) => if w1.1 = 0 then bX5_straightAt_123_45 v2 v3 v4 v5 v6 (v7 + (1 : Int32)) w1.2 else xgd (xinb 256 (v4 ||| ((1 : Int32) <<< (v7 &&& 31)))) (if (w1.2.1 127 ((v4 ||| ((1 : Int32) <<< (v7 &&& 31)))).toNatClampNeg) ≤ v3 then xlt (v3 - (w1.2.1 127 ((v4 ||| ((1 : Int32) <<< (v7 &&& 31)))).toNatClampNeg)) fun (x4 : Int32) => bX5_straightAt_123_45 v2 x4 v4 v7 v6 (v7 + (1 : Int32)) w1.2 else bX5_straightAt_123_109 v2 v3 v4 v7 v6 w1.2)) = some z) : bX5_straightAt_123_45 v2 v3 v4 v5 v6 v7 m = some z := by
  refine xstI ?_
  show xT 55 2 45 [(0, .ref 123), (2, .int v2), (3, .int v3), (4, .int v4), (5, .int v5), (6, .int v6), (7, .int v7)] [] m (some (.int z.1), z.2)
  refine e_iload rfl rfl (xnm_no rfl) ?_
  refine e_aload_n rfl rfl rfl (xnm_no rfl) ?_
  refine e_getI rfl rfl rfl rfl (xnm_no rfl) ?_
  refine e_icmp_ge (t := 109) rfl rfl rfl (xnm_no rfl) h (fun h => ?_) (fun h => ?_)
  · exact xlfI h
  · refine e_aload_n rfl rfl rfl (xnm_no rfl) ?_
    refine e_iload rfl rfl (xnm_no rfl) ?_
    refine e_iload rfl rfl (xnm_no rfl) ?_
    obtain ⟨w1, hw2, h⟩ := xbd_some h
    refine e_cIV (hc := hw2) (rest := []) rfl rfl rfl rfl rfl rfl rfl rfl (xnm_no rfl) ?_
    refine e_if_eq (t := 103) rfl rfl (xnm_no rfl) (xnm_no rfl) h (fun h => ?_) (fun h => ?_)
    · refine e_iinc (y := 1) rfl rfl rfl (by decide) (xnm_no rfl) ?_
      refine e_goto (t := 45) rfl rfl rfl ?_
      exact xlfI h
    · refine e_iload rfl rfl (xnm_no rfl) ?_
      refine e_istore rfl rfl (xnm_no rfl) ?_
      refine e_iload_n rfl rfl (xnm_no rfl) ?_
      refine e_aload_n rfl rfl rfl (xnm_no rfl) ?_
      refine e_getR (r := 127) rfl rfl rfl rfl rfl (xnm_no rfl) ?_
      refine e_iload rfl rfl (xnm_no rfl) ?_
      refine e_iconst (x := 1) rfl (by decide) (xnm_no rfl) ?_
      refine e_iload rfl rfl (xnm_no rfl) ?_
      refine e_ishl rfl (xnm_no rfl) ?_
      refine e_ior rfl (xnm_no rfl) ?_
      obtain ⟨g3, h⟩ := xgd_some h
      refine e_iald rfl g3 (xnm_no rfl) ?_
      refine e_icmp_ge (t := 88) rfl rfl (xnm_no rfl) (xnm_no rfl) h (fun h => ?_) (fun h => ?_)
      · refine e_iload_n rfl rfl (xnm_no rfl) ?_
        refine e_aload_n rfl rfl rfl (xnm_no rfl) ?_
        refine e_getR (r := 127) rfl rfl rfl rfl rfl (xnm_no rfl) ?_
        refine e_iload rfl rfl (xnm_no rfl) ?_
        refine e_iconst (x := 1) rfl (by decide) (xnm_no rfl) ?_
        refine e_iload rfl rfl (xnm_no rfl) ?_
        refine e_ishl rfl (xnm_no rfl) ?_
        refine e_ior rfl (xnm_no rfl) ?_
        refine e_iald rfl g3 (xnm_no rfl) ?_
        refine e_isub rfl (xnm_no rfl) ?_
        replace h := xlt_b h
        refine e_istore_n rfl rfl (xnm_no rfl) ?_
        refine e_iinc (y := 1) rfl rfl rfl (by decide) (xnm_no rfl) ?_
        refine e_goto (t := 45) rfl rfl rfl ?_
        exact xlfI h
      · refine e_goto (t := 109) rfl rfl rfl ?_
        exact xlfI h
set_option maxRecDepth 4000 in
theorem bX5_straightAt_123_109_i (v2 : Int32) (v3 : Int32) (v4 : Int32) (v5 : Int32) (v6 : Int32) (m : xmm) {z : Int32 × xmm} (h : (bX5_straightAt_123_27 v2 v3 (v4 ||| ((1 : Int32) <<< (v5 &&& 31))) v5 (v6 + (1 : Int32)) m) = some z) : bX5_straightAt_123_109 v2 v3 v4 v5 v6 m = some z := by
  refine xstI ?_
  show xT 55 2 109 [(0, .ref 123), (2, .int v2), (3, .int v3), (4, .int v4), (5, .int v5), (6, .int v6)] [] m (some (.int z.1), z.2)
  refine e_iload rfl rfl (xnm_no rfl) ?_
  refine e_iconst (x := 1) rfl (by decide) (xnm_no rfl) ?_
  refine e_iload rfl rfl (xnm_no rfl) ?_
  refine e_ishl rfl (xnm_no rfl) ?_
  refine e_ior rfl (xnm_no rfl) ?_
  refine e_istore rfl rfl (xnm_no rfl) ?_
  refine e_iinc (y := 1) rfl rfl rfl (by decide) (xnm_no rfl) ?_
  refine e_goto (t := 27) rfl rfl rfl ?_
  exact xlfI h
set_option maxRecDepth 4000 in
theorem fX5_firstPlaceOf_123_i (v1 : Int32) (m : xmm) {z : Int32 × xmm} (h : (bX5_firstPlaceOf_123_2 v1 (0 : Int32) m) = some z) : fX5_firstPlaceOf_123 v1 m = some z := by
  refine xstI ?_
  show xT 56 3 0 [(0, .ref 123), (1, .int v1)] [] m (some (.int z.1), z.2)
  refine e_iconst (x := 0) rfl (by decide) (xnm_no rfl) ?_
  refine e_istore_n rfl rfl rfl ?_
  exact xlfI h
set_option maxRecDepth 4000 in
theorem bX5_firstPlaceOf_123_2_i (v1 : Int32) (v2 : Int32) (m : xmm) {z : Int32 × xmm} (h : (if (m.1 123 6) ≤ v2 then some ((-1 : Int32), m) else (fX5_straightAt_123 (0 : Int32) v2 m).bind fun (w1 : Int32 × xmm) => if w1.1 = v1 then some (v2, w1.2) else bX5_firstPlaceOf_123_2 v1 (v2 + (1 : Int32)) w1.2) = some z) : bX5_firstPlaceOf_123_2 v1 v2 m = some z := by
  refine xstI ?_
  show xT 56 3 2 [(0, .ref 123), (1, .int v1), (2, .int v2)] [] m (some (.int z.1), z.2)
  refine e_iload_n rfl rfl (xnm_no rfl) ?_
  refine e_aload_n rfl rfl rfl (xnm_no rfl) ?_
  refine e_getI rfl rfl rfl rfl (xnm_no rfl) ?_
  refine e_icmp_ge (t := 28) rfl rfl (xnm_no rfl) (xnm_no rfl) h (fun h => ?_) (fun h => ?_)
  · refine e_iconst (x := -1) rfl (by decide) (xnm_no rfl) ?_
    cases h
    exact e_retI rfl rfl
  · refine e_aload_n rfl rfl rfl (xnm_no rfl) ?_
    refine e_iconst (x := 0) rfl (by decide) (xnm_no rfl) ?_
    refine e_iload_n rfl rfl (xnm_no rfl) ?_
    obtain ⟨w1, hw2, h⟩ := xbd_some h
    refine e_cIV (hc := hw2) (rest := []) rfl rfl rfl rfl rfl rfl rfl rfl (xnm_no rfl) ?_
    refine e_iload_n rfl rfl (xnm_no rfl) ?_
    refine e_icmp_ne (t := 22) rfl rfl (xnm_no rfl) (xnm_no rfl) h (fun h => ?_) (fun h => ?_)
    · refine e_iinc (y := 1) rfl rfl rfl (by decide) (xnm_no rfl) ?_
      refine e_goto (t := 2) rfl rfl rfl ?_
      exact xlfI h
    · refine e_iload_n rfl rfl (xnm_no rfl) ?_
      cases h
      exact e_retI rfl rfl
set_option maxRecDepth 4000 in
theorem fX0_has_109_i (v1 : Int32) (m : xmm) {z : Int32 × xmm} (h : ((fX11_isArrow 114 v1 m).bind fun (w1 : Int32 × xmm) => xgd (xz01 w1.1) (some (w1.1, w1.2))) = some z) : fX0_has_109 v1 m = some z := by
  refine xstI ?_
  show xT 3 2 0 [(0, .ref 109), (1, .int v1)] [] m (some (.int z.1), z.2)
  refine e_aload_n rfl rfl rfl (xnm_no rfl) ?_
  refine e_getR (r := 114) rfl rfl rfl rfl rfl (xnm_no rfl) ?_
  refine e_iload_n rfl rfl (xnm_no rfl) ?_
  obtain ⟨w1, hw2, h⟩ := xbd_some h
  refine e_cIS (hc := hw2) (rest := []) rfl rfl rfl rfl rfl rfl rfl rfl (xnm_no rfl) ?_
  obtain ⟨g3, h⟩ := xgd_some h
  cases h
  exact e_retI rfl g3
set_option maxRecDepth 4000 in
theorem fX0_has_116_i (v1 : Int32) (m : xmm) {z : Int32 × xmm} (h : ((fX11_isArrow 121 v1 m).bind fun (w1 : Int32 × xmm) => xgd (xz01 w1.1) (some (w1.1, w1.2))) = some z) : fX0_has_116 v1 m = some z := by
  refine xstI ?_
  show xT 3 2 0 [(0, .ref 116), (1, .int v1)] [] m (some (.int z.1), z.2)
  refine e_aload_n rfl rfl rfl (xnm_no rfl) ?_
  refine e_getR (r := 121) rfl rfl rfl rfl rfl (xnm_no rfl) ?_
  refine e_iload_n rfl rfl (xnm_no rfl) ?_
  obtain ⟨w1, hw2, h⟩ := xbd_some h
  refine e_cIS (hc := hw2) (rest := []) rfl rfl rfl rfl rfl rfl rfl rfl (xnm_no rfl) ?_
  obtain ⟨g3, h⟩ := xgd_some h
  cases h
  exact e_retI rfl g3
set_option maxRecDepth 4000 in
theorem fX11_crossedPlace_0_i (v1 : Int32) (v2 : Int32) (m : xmm) {z : Int32 × xmm} (h : ((fX11_isCrossed_0 m).bind fun (w1 : Int32 × xmm) => if w1.1 = 0 then some ((-2 : Int32), w1.2) else bX11_crossedPlace_0_15 v1 v2 (0 : Int32) (0 : Int32) w1.2) = some z) : fX11_crossedPlace_0 v1 v2 m = some z := by
  refine xstI ?_
  show xT 152 3 0 [(0, .ref 0), (1, .int v1), (2, .int v2)] [] m (some (.int z.1), z.2)
  refine e_aload_n rfl rfl rfl (xnm_no rfl) ?_
  obtain ⟨w1, hw2, h⟩ := xbd_some h
  refine e_cIV (hc := hw2) (rest := []) rfl rfl rfl rfl rfl rfl rfl rfl (xnm_no rfl) ?_
  refine e_if_ne (t := 10) rfl rfl (xnm_no rfl) (xnm_no rfl) h (fun h => ?_) (fun h => ?_)
  · refine e_iconst (x := 0) rfl (by decide) (xnm_no rfl) ?_
    refine e_istore_n rfl rfl (xnm_no rfl) ?_
    refine e_iconst (x := 0) rfl (by decide) (xnm_no rfl) ?_
    refine e_istore rfl rfl rfl ?_
    exact xlfI h
  · refine e_bipush (x := -2) rfl (by decide) (xnm_no rfl) ?_
    cases h
    exact e_retI rfl rfl
set_option maxRecDepth 4000 in
theorem bX11_crossedPlace_0_15_i (v1 : Int32) (v2 : Int32) (v3 : Int32) (v4 : Int32) (m : xmm) {z : Int32 × xmm} (h : (if (m.1 10 0) ≤ v4 then some (v3, m) else if v2 = 0 then (fX11_arrowFrom v4 v1 m).bind fun (w1 : Int32 × xmm) => bX11_crossedPlace_0_46 v1 v2 v3 v4 w1.1 w1.2 else (fX11_arrowFrom v1 v4 m).bind fun (w3 : Int32 × xmm) => bX11_crossedPlace_0_46 v1 v2 v3 v4 w3.1 w3.2) = some z) : bX11_crossedPlace_0_15 v1 v2 v3 v4 m = some z := by
  refine xstI ?_
  show xT 152 3 15 [(0, .ref 0), (1, .int v1), (2, .int v2), (3, .int v3), (4, .int v4)] [] m (some (.int z.1), z.2)
  refine e_iload rfl rfl (xnm_no rfl) ?_
  refine e_aload_n rfl rfl rfl (xnm_no rfl) ?_
  refine e_getR (r := 10) rfl rfl rfl rfl rfl (xnm_no rfl) ?_
  refine e_getI rfl rfl rfl rfl (xnm_no rfl) ?_
  refine e_icmp_ge (t := 85) rfl rfl (xnm_no rfl) (xnm_no rfl) h (fun h => ?_) (fun h => ?_)
  · refine e_iload_n rfl rfl (xnm_no rfl) ?_
    cases h
    exact e_retI rfl rfl
  · refine e_iload_n rfl rfl (xnm_no rfl) ?_
    refine e_if_eq (t := 40) rfl rfl (xnm_no rfl) (xnm_no rfl) h (fun h => ?_) (fun h => ?_)
    · refine e_iload rfl rfl (xnm_no rfl) ?_
      refine e_iload_n rfl rfl (xnm_no rfl) ?_
      obtain ⟨w1, hw2, h⟩ := xbd_some h
      refine e_cIS (hc := hw2) (rest := []) rfl rfl rfl rfl rfl rfl rfl rfl rfl ?_
      exact xlfI h
    · refine e_iload_n rfl rfl (xnm_no rfl) ?_
      refine e_iload rfl rfl (xnm_no rfl) ?_
      obtain ⟨w3, hw4, h⟩ := xbd_some h
      refine e_cIS (hc := hw4) (rest := []) rfl rfl rfl rfl rfl rfl rfl rfl (xnm_no rfl) ?_
      refine e_goto (t := 46) rfl rfl rfl ?_
      exact xlfI h
set_option maxRecDepth 4000 in
theorem bX11_crossedPlace_0_46_i (v1 : Int32) (v2 : Int32) (v3 : Int32) (v4 : Int32) (s0 : Int32) (m : xmm) {z : Int32 × xmm} (h : ((fX0_has_109 s0 m).bind fun (w1 : Int32 × xmm) => if w1.1 = 0 then (fX11_arrowFrom v4 v1 w1.2).bind fun (w3 : Int32 × xmm) => (fX0_has_116 w3.1 w3.2).bind fun (w5 : Int32 × xmm) => if w5.1 = 0 then bX11_crossedPlace_0_15 v1 v2 v3 (v4 + (1 : Int32)) w5.2 else bX11_crossedPlace_0_15 v1 v2 (v3 + (1 : Int32)) (v4 + (1 : Int32)) w5.2 else bX11_crossedPlace_0_15 v1 v2 (v3 + (1 : Int32)) (v4 + (1 : Int32)) w1.2) = some z) : bX11_crossedPlace_0_46 v1 v2 v3 v4 s0 m = some z := by
  refine xstI ?_
  show xT 152 3 46 [(0, .ref 0), (1, .int v1), (2, .int v2), (3, .int v3), (4, .int v4)] [.int s0] m (some (.int z.1), z.2)
  refine e_istore rfl rfl (xnm_no rfl) ?_
  refine e_aload_n rfl rfl rfl (xnm_no rfl) ?_
  refine e_getR (r := 109) rfl rfl rfl rfl rfl (xnm_no rfl) ?_
  refine e_iload rfl rfl (xnm_no rfl) ?_
  obtain ⟨w1, hw2, h⟩ := xbd_some h
  refine e_cIV (hc := hw2) (rest := []) rfl rfl rfl rfl rfl rfl rfl rfl (xnm_no rfl) ?_
  refine e_if_ne (t := 76) rfl rfl (xnm_no rfl) (xnm_no rfl) h (fun h => ?_) (fun h => ?_)
  · refine e_iinc (y := 1) rfl rfl rfl (by decide) (xnm_no rfl) ?_
    refine e_iinc (y := 1) rfl rfl rfl (by decide) (xnm_no rfl) ?_
    refine e_goto (t := 15) rfl rfl rfl ?_
    exact xlfI h
  · refine e_aload_n rfl rfl rfl (xnm_no rfl) ?_
    refine e_getR (r := 116) rfl rfl rfl rfl rfl (xnm_no rfl) ?_
    refine e_iload rfl rfl (xnm_no rfl) ?_
    refine e_iload_n rfl rfl (xnm_no rfl) ?_
    obtain ⟨w3, hw4, h⟩ := xbd_some h
    refine e_cIS (hc := hw4) (rest := [.ref 116]) rfl rfl rfl rfl rfl rfl rfl rfl (xnm_no rfl) ?_
    obtain ⟨w5, hw6, h⟩ := xbd_some h
    refine e_cIV (hc := hw6) (rest := []) rfl rfl rfl rfl rfl rfl rfl rfl (xnm_no rfl) ?_
    refine e_if_eq (t := 79) rfl rfl (xnm_no rfl) (xnm_no rfl) h (fun h => ?_) (fun h => ?_)
    · refine e_iinc (y := 1) rfl rfl rfl (by decide) (xnm_no rfl) ?_
      refine e_goto (t := 15) rfl rfl rfl ?_
      exact xlfI h
    · refine e_iinc (y := 1) rfl rfl rfl (by decide) (xnm_no rfl) ?_
      refine e_iinc (y := 1) rfl rfl rfl (by decide) (xnm_no rfl) ?_
      refine e_goto (t := 15) rfl rfl rfl ?_
      exact xlfI h
set_option maxRecDepth 4000 in
theorem fX11_post_0_i (v1 : Int32) (v2 : Int32) (m : xmm) {z : Int32 × xmm} (h : ((fX3_hasPost 10 v1 m).bind fun (w1 : Int32 × xmm) => if w1.1 = 0 then some ((-1 : Int32), w1.2) else if v2 < 0 then some ((-1 : Int32), w1.2) else if v2 ≤ (6 : Int32) then (fX11_study_0 w1.2).bind fun (w3 : xmm) => (fX1_isOrdered_97 w3).bind fun (w5 : Int32 × xmm) => if w5.1 = 0 then some ((-2 : Int32), w5.2) else if v2 = 0 then (fX5_levelOf_123 v1 w5.2).bind fun (w8 : Int32 × xmm) => some (w8.1, w8.2) else if v2 = 1 then (fX5_belowOf_123 v1 w5.2).bind fun (w11 : Int32 × xmm) => some (w11.1, w11.2) else if v2 = 2 then (fX5_aboveOf_123 v1 w5.2).bind fun (w14 : Int32 × xmm) => some (w14.1, w14.2) else if v2 = 3 then (fX5_coveredBy_123 v1 w5.2).bind fun (w17 : Int32 × xmm) => some (w17.1, w17.2) else if v2 = 4 then (fX5_firstPlaceOf_123 v1 w5.2).bind fun (w20 : Int32 × xmm) => some (w20.1, w20.2) else if v2 = 5 then (fX11_crossedPlace_0 v1 (0 : Int32) w5.2).bind fun (w23 : Int32 × xmm) => some (w23.1, w23.2) else (fX11_crossedPlace_0 v1 (1 : Int32) w5.2).bind fun (w25 : Int32 × xmm) => some (w25.1, w25.2) else some ((-1 : Int32), w1.2)) = some z) : fX11_post_0 v1 v2 m = some z := by
  refine xstI ?_
  show xT 132 6 0 [(0, .ref 0), (1, .int v1), (2, .int v2)] [] m (some (.int z.1), z.2)
  refine e_aload_n rfl rfl rfl (xnm_no rfl) ?_
  refine e_getR (r := 10) rfl rfl rfl rfl rfl (xnm_no rfl) ?_
  refine e_iload_n rfl rfl (xnm_no rfl) ?_
  obtain ⟨w1, hw2, h⟩ := xbd_some h
  refine e_cIV (hc := hw2) (rest := []) rfl rfl rfl rfl rfl rfl rfl rfl (xnm_no rfl) ?_
  refine e_if_eq (t := 21) rfl rfl (xnm_no rfl) (xnm_no rfl) h (fun h => ?_) (fun h => ?_)
  · refine e_iconst (x := -1) rfl (by decide) (xnm_no rfl) ?_
    cases h
    exact e_retI rfl rfl
  · refine e_iload_n rfl rfl (xnm_no rfl) ?_
    refine e_if_lt (t := 21) rfl rfl (xnm_no rfl) (xnm_no rfl) h (fun h => ?_) (fun h => ?_)
    · refine e_iconst (x := -1) rfl (by decide) (xnm_no rfl) ?_
      cases h
      exact e_retI rfl rfl
    · refine e_iload_n rfl rfl (xnm_no rfl) ?_
      refine e_bipush (x := 6) rfl (by decide) (xnm_no rfl) ?_
      refine e_icmp_le (t := 23) rfl rfl (xnm_no rfl) (xnm_no rfl) h (fun h => ?_) (fun h => ?_)
      · refine e_aload_n rfl rfl rfl (xnm_no rfl) ?_
        obtain ⟨w3, hw4, h⟩ := xbd_some h
        refine e_cVV (hc := hw4) (rest := []) rfl rfl rfl rfl rfl rfl rfl rfl (xnm_no rfl) ?_
        refine e_aload_n rfl rfl rfl (xnm_no rfl) ?_
        refine e_getR (r := 97) rfl rfl rfl rfl rfl (xnm_no rfl) ?_
        obtain ⟨w5, hw6, h⟩ := xbd_some h
        refine e_cIV (hc := hw6) (rest := []) rfl rfl rfl rfl rfl rfl rfl rfl (xnm_no rfl) ?_
        refine e_if_ne (t := 40) rfl rfl (xnm_no rfl) (xnm_no rfl) h (fun h => ?_) (fun h => ?_)
        · refine e_iload_n rfl rfl (xnm_no rfl) ?_
          by_cases c7 : v2 = 0
          · rw [if_pos c7] at h
            refine e_sw (t := 80) (o := 39) rfl (by decide) (xsw_p c7) rfl (xnm_no rfl) ?_
            refine e_aload_n rfl rfl rfl (xnm_no rfl) ?_
            refine e_getR (r := 123) rfl rfl rfl rfl rfl (xnm_no rfl) ?_
            refine e_iload_n rfl rfl (xnm_no rfl) ?_
            obtain ⟨w8, hw9, h⟩ := xbd_some h
            refine e_cIV (hc := hw9) (rest := []) rfl rfl rfl rfl rfl rfl rfl rfl (xnm_no rfl) ?_
            cases h
            exact e_retI rfl rfl
          · rw [if_neg c7] at h
            by_cases c10 : v2 = 1
            · rw [if_pos c10] at h
              refine e_sw (t := 89) (o := 48) rfl (by decide) (xsw_n c7 (xsw_p c10)) rfl (xnm_no rfl) ?_
              refine e_aload_n rfl rfl rfl (xnm_no rfl) ?_
              refine e_getR (r := 123) rfl rfl rfl rfl rfl (xnm_no rfl) ?_
              refine e_iload_n rfl rfl (xnm_no rfl) ?_
              obtain ⟨w11, hw12, h⟩ := xbd_some h
              refine e_cIV (hc := hw12) (rest := []) rfl rfl rfl rfl rfl rfl rfl rfl (xnm_no rfl) ?_
              cases h
              exact e_retI rfl rfl
            · rw [if_neg c10] at h
              by_cases c13 : v2 = 2
              · rw [if_pos c13] at h
                refine e_sw (t := 98) (o := 57) rfl (by decide) (xsw_n c7 (xsw_n c10 (xsw_p c13))) rfl (xnm_no rfl) ?_
                refine e_aload_n rfl rfl rfl (xnm_no rfl) ?_
                refine e_getR (r := 123) rfl rfl rfl rfl rfl (xnm_no rfl) ?_
                refine e_iload_n rfl rfl (xnm_no rfl) ?_
                obtain ⟨w14, hw15, h⟩ := xbd_some h
                refine e_cIV (hc := hw15) (rest := []) rfl rfl rfl rfl rfl rfl rfl rfl (xnm_no rfl) ?_
                cases h
                exact e_retI rfl rfl
              · rw [if_neg c13] at h
                by_cases c16 : v2 = 3
                · rw [if_pos c16] at h
                  refine e_sw (t := 107) (o := 66) rfl (by decide) (xsw_n c7 (xsw_n c10 (xsw_n c13 (xsw_p c16)))) rfl (xnm_no rfl) ?_
                  refine e_aload_n rfl rfl rfl (xnm_no rfl) ?_
                  refine e_getR (r := 123) rfl rfl rfl rfl rfl (xnm_no rfl) ?_
                  refine e_iload_n rfl rfl (xnm_no rfl) ?_
                  obtain ⟨w17, hw18, h⟩ := xbd_some h
                  refine e_cIV (hc := hw18) (rest := []) rfl rfl rfl rfl rfl rfl rfl rfl (xnm_no rfl) ?_
                  cases h
                  exact e_retI rfl rfl
                · rw [if_neg c16] at h
                  by_cases c19 : v2 = 4
                  · rw [if_pos c19] at h
                    refine e_sw (t := 116) (o := 75) rfl (by decide) (xsw_n c7 (xsw_n c10 (xsw_n c13 (xsw_n c16 (xsw_p c19))))) rfl (xnm_no rfl) ?_
                    refine e_aload_n rfl rfl rfl (xnm_no rfl) ?_
                    refine e_getR (r := 123) rfl rfl rfl rfl rfl (xnm_no rfl) ?_
                    refine e_iload_n rfl rfl (xnm_no rfl) ?_
                    obtain ⟨w20, hw21, h⟩ := xbd_some h
                    refine e_cIV (hc := hw21) (rest := []) rfl rfl rfl rfl rfl rfl rfl rfl (xnm_no rfl) ?_
                    cases h
                    exact e_retI rfl rfl
                  · rw [if_neg c19] at h
                    by_cases c22 : v2 = 5
                    · rw [if_pos c22] at h
                      refine e_sw (t := 125) (o := 84) rfl (by decide) (xsw_n c7 (xsw_n c10 (xsw_n c13 (xsw_n c16 (xsw_n c19 (xsw_p c22)))))) rfl (xnm_no rfl) ?_
                      refine e_aload_n rfl rfl rfl (xnm_no rfl) ?_
                      refine e_iload_n rfl rfl (xnm_no rfl) ?_
                      refine e_iconst (x := 0) rfl (by decide) (xnm_no rfl) ?_
                      obtain ⟨w23, hw24, h⟩ := xbd_some h
                      refine e_cIV (hc := hw24) (rest := []) rfl rfl rfl rfl rfl rfl rfl rfl (xnm_no rfl) ?_
                      cases h
                      exact e_retI rfl rfl
                    · rw [if_neg c22] at h
                      refine e_sw (t := 132) (o := 91) rfl (by decide) (xsw_n c7 (xsw_n c10 (xsw_n c13 (xsw_n c16 (xsw_n c19 (xsw_n c22 xsw_d)))))) rfl (xnm_no rfl) ?_
                      refine e_aload_n rfl rfl rfl (xnm_no rfl) ?_
                      refine e_iload_n rfl rfl (xnm_no rfl) ?_
                      refine e_iconst (x := 1) rfl (by decide) (xnm_no rfl) ?_
                      obtain ⟨w25, hw26, h⟩ := xbd_some h
                      refine e_cIV (hc := hw26) (rest := []) rfl rfl rfl rfl rfl rfl rfl rfl (xnm_no rfl) ?_
                      cases h
                      exact e_retI rfl rfl
        · refine e_bipush (x := -2) rfl (by decide) (xnm_no rfl) ?_
          cases h
          exact e_retI rfl rfl
      · refine e_iconst (x := -1) rfl (by decide) (xnm_no rfl) ?_
        cases h
        exact e_retI rfl rfl
set_option maxRecDepth 4000 in
theorem fX10_groupOf_132_i (v1 : Int32) (m : xmm) {z : Int32 × xmm} (h : (xgd (xinb 8 v1) (some ((m.1 134 (v1).toNatClampNeg), m))) = some z) : fX10_groupOf_132 v1 m = some z := by
  refine xstI ?_
  show xT 109 0 0 [(0, .ref 132), (1, .int v1)] [] m (some (.int z.1), z.2)
  refine e_aload_n rfl rfl rfl (xnm_no rfl) ?_
  refine e_getR (r := 134) rfl rfl rfl rfl rfl (xnm_no rfl) ?_
  refine e_iload_n rfl rfl (xnm_no rfl) ?_
  obtain ⟨g1, h⟩ := xgd_some h
  refine e_iald rfl g1 (xnm_no rfl) ?_
  cases h
  exact e_retI rfl rfl
set_option maxRecDepth 4000 in
theorem fX11_chain_0_i (v1 : Int32) (m : xmm) {z : Int32 × xmm} (h : ((fX3_hasPost 10 v1 m).bind fun (w1 : Int32 × xmm) => if w1.1 = 0 then some ((-1 : Int32), w1.2) else (fX11_study_0 w1.2).bind fun (w3 : xmm) => (fX1_isOrdered_97 w3).bind fun (w5 : Int32 × xmm) => if w5.1 = 0 then some ((-2 : Int32), w5.2) else (fX10_share_132_10 w5.2).bind fun (w7 : Int32 × xmm) => (fX10_groupOf_132 v1 w7.2).bind fun (w9 : Int32 × xmm) => some (w9.1, w9.2)) = some z) : fX11_chain_0 v1 m = some z := by
  refine xstI ?_
  show xT 134 11 0 [(0, .ref 0), (1, .int v1)] [] m (some (.int z.1), z.2)
  refine e_aload_n rfl rfl rfl (xnm_no rfl) ?_
  refine e_getR (r := 10) rfl rfl rfl rfl rfl (xnm_no rfl) ?_
  refine e_iload_n rfl rfl (xnm_no rfl) ?_
  obtain ⟨w1, hw2, h⟩ := xbd_some h
  refine e_cIV (hc := hw2) (rest := []) rfl rfl rfl rfl rfl rfl rfl rfl (xnm_no rfl) ?_
  refine e_if_ne (t := 13) rfl rfl (xnm_no rfl) (xnm_no rfl) h (fun h => ?_) (fun h => ?_)
  · refine e_aload_n rfl rfl rfl (xnm_no rfl) ?_
    obtain ⟨w3, hw4, h⟩ := xbd_some h
    refine e_cVV (hc := hw4) (rest := []) rfl rfl rfl rfl rfl rfl rfl rfl (xnm_no rfl) ?_
    refine e_aload_n rfl rfl rfl (xnm_no rfl) ?_
    refine e_getR (r := 97) rfl rfl rfl rfl rfl (xnm_no rfl) ?_
    obtain ⟨w5, hw6, h⟩ := xbd_some h
    refine e_cIV (hc := hw6) (rest := []) rfl rfl rfl rfl rfl rfl rfl rfl (xnm_no rfl) ?_
    refine e_if_ne (t := 30) rfl rfl (xnm_no rfl) (xnm_no rfl) h (fun h => ?_) (fun h => ?_)
    · refine e_aload_n rfl rfl rfl (xnm_no rfl) ?_
      refine e_getR (r := 132) rfl rfl rfl rfl rfl (xnm_no rfl) ?_
      refine e_aload_n rfl rfl rfl (xnm_no rfl) ?_
      refine e_getR (r := 10) rfl rfl rfl rfl rfl (xnm_no rfl) ?_
      obtain ⟨w7, hw8, h⟩ := xbd_some h
      refine e_cIV (hc := hw8) (rest := []) rfl rfl rfl rfl rfl rfl rfl rfl (xnm_no rfl) ?_
      refine e_pop rfl rfl (xnm_no rfl) ?_
      refine e_aload_n rfl rfl rfl (xnm_no rfl) ?_
      refine e_getR (r := 132) rfl rfl rfl rfl rfl (xnm_no rfl) ?_
      refine e_iload_n rfl rfl (xnm_no rfl) ?_
      obtain ⟨w9, hw10, h⟩ := xbd_some h
      refine e_cIV (hc := hw10) (rest := []) rfl rfl rfl rfl rfl rfl rfl rfl (xnm_no rfl) ?_
      cases h
      exact e_retI rfl rfl
    · refine e_bipush (x := -2) rfl (by decide) (xnm_no rfl) ?_
      cases h
      exact e_retI rfl rfl
  · refine e_iconst (x := -1) rfl (by decide) (xnm_no rfl) ?_
    cases h
    exact e_retI rfl rfl
set_option maxRecDepth 4000 in
theorem fL_kept_0_i (m : xmm) {z : Nat × xmm} (h : (xgd (Nat.blt (xctm m) 900) (xlt (xctm m - 1) fun (k2 : Nat) => xlt (xwn m 70) fun (m3 : xmm) => xgd (!(Nat.beq k2 1999)) (bL_kept_0_9 k2 (0 : Int32) (0 : Int32) m3))) = some z) : fL_kept_0 m = some z := by
  refine xstR ?_
  show xTc 0 0 169 15 0 [(0, .ref 0)] [] m (some (xvR z.1), z.2)
  refine e_bipush (x := 70) rfl (by decide) (xnm_no rfl) ?_
  obtain ⟨g1, h⟩ := xgd_some h
  replace h := xlt_b h
  refine e_newa (n := 70) (c2 := 1) (s2 := 70) rfl rfl g1 rfl rfl rfl (xnm_no rfl) ?_
  replace h := xlt_b h
  obtain ⟨g4, h⟩ := xgd_some h
  refine e_astore_n rfl rfl (xnb g4) (xnm_no rfl) ?_
  refine e_iconst (x := 0) rfl (by decide) (xnm_no rfl) ?_
  refine e_istore_n rfl rfl (xnm_no rfl) ?_
  refine e_iconst (x := 0) rfl (by decide) (xnm_no rfl) ?_
  refine e_istore_n rfl rfl rfl ?_
  exact xlfRc h
set_option maxRecDepth 4000 in
theorem bL_kept_0_9_i (v1 : Nat) (v2 : Int32) (v3 : Int32) (m : xmm) {z : Nat × xmm} (h : (if (8 : Int32) ≤ v3 then bL_kept_0_34 v1 v2 (0 : Int32) m else xgd (!(Nat.beq v1 1999)) ((fX11_count_0 v3 m).bind fun (w2 : Int32 × xmm) => xgd (xir w2.2 v1 v2) (xlt (xwi w2.2 v1 (v2).toNatClampNeg w2.1) fun (m5 : xmm) => bL_kept_0_9 v1 (v2 + (1 : Int32)) (v3 + (1 : Int32)) m5))) = some z) : bL_kept_0_9 v1 v2 v3 m = some z := by
  refine xstRc ?_
  show xTc 1 70 169 15 9 [(0, .ref 0), (1, .ref v1), (2, .int v2), (3, .int v3)] [] m (some (xvR z.1), z.2)
  refine e_iload_n rfl rfl (xnm_no rfl) ?_
  refine e_bipush (x := 8) rfl (by decide) (xnm_no rfl) ?_
  refine e_icmp_ge (t := 32) rfl rfl (xnm_no rfl) (xnm_no rfl) h (fun h => ?_) (fun h => ?_)
  · refine e_iconst (x := 0) rfl (by decide) (xnm_no rfl) ?_
    refine e_istore_n rfl rfl rfl ?_
    exact xlfRc h
  · obtain ⟨g1, h⟩ := xgd_some h
    refine e_aload_n rfl rfl (xnb g1) (xnm_no rfl) ?_
    refine e_iload_n rfl rfl (xnm_no rfl) ?_
    refine e_iinc (y := 1) rfl rfl rfl (by decide) (xnm_no rfl) ?_
    refine e_aload_n rfl rfl rfl (xnm_no rfl) ?_
    refine e_iload_n rfl rfl (xnm_no rfl) ?_
    obtain ⟨w2, hw3, h⟩ := xbd_some h
    refine e_cIVc (hc := hw3) (rest := [.int _, .ref _]) (c2 := 1) (s2 := 70) rfl rfl rfl rfl rfl rfl rfl (xadd0 rfl) (xadd0 rfl) rfl rfl (xnm_no rfl) ?_
    obtain ⟨g4, h⟩ := xgd_some h
    refine e_rast rfl g4 (xnm_no rfl) ?_
    replace h := xlt_b h
    refine e_iinc (y := 1) rfl rfl rfl (by decide) (xnm_no rfl) ?_
    refine e_goto (t := 9) rfl rfl rfl ?_
    exact xlfRc h
set_option maxRecDepth 4000 in
theorem bL_kept_0_34_i (v1 : Nat) (v2 : Int32) (v3 : Int32) (m : xmm) {z : Nat × xmm} (h : (if (8 : Int32) ≤ v3 then bL_kept_0_59 v1 v2 (0 : Int32) m else xgd (!(Nat.beq v1 1999)) ((fX11_network_0 v3 m).bind fun (w2 : Int32 × xmm) => xgd (xir w2.2 v1 v2) (xlt (xwi w2.2 v1 (v2).toNatClampNeg w2.1) fun (m5 : xmm) => bL_kept_0_34 v1 (v2 + (1 : Int32)) (v3 + (1 : Int32)) m5))) = some z) : bL_kept_0_34 v1 v2 v3 m = some z := by
  refine xstRc ?_
  show xTc 1 70 169 15 34 [(0, .ref 0), (1, .ref v1), (2, .int v2), (3, .int v3)] [] m (some (xvR z.1), z.2)
  refine e_iload_n rfl rfl (xnm_no rfl) ?_
  refine e_bipush (x := 8) rfl (by decide) (xnm_no rfl) ?_
  refine e_icmp_ge (t := 57) rfl rfl (xnm_no rfl) (xnm_no rfl) h (fun h => ?_) (fun h => ?_)
  · refine e_iconst (x := 0) rfl (by decide) (xnm_no rfl) ?_
    refine e_istore_n rfl rfl rfl ?_
    exact xlfRc h
  · obtain ⟨g1, h⟩ := xgd_some h
    refine e_aload_n rfl rfl (xnb g1) (xnm_no rfl) ?_
    refine e_iload_n rfl rfl (xnm_no rfl) ?_
    refine e_iinc (y := 1) rfl rfl rfl (by decide) (xnm_no rfl) ?_
    refine e_aload_n rfl rfl rfl (xnm_no rfl) ?_
    refine e_iload_n rfl rfl (xnm_no rfl) ?_
    obtain ⟨w2, hw3, h⟩ := xbd_some h
    refine e_cIVc (hc := hw3) (rest := [.int _, .ref _]) (c2 := 1) (s2 := 70) rfl rfl rfl rfl rfl rfl rfl (xadd0 rfl) (xadd0 rfl) rfl rfl (xnm_no rfl) ?_
    obtain ⟨g4, h⟩ := xgd_some h
    refine e_rast rfl g4 (xnm_no rfl) ?_
    replace h := xlt_b h
    refine e_iinc (y := 1) rfl rfl rfl (by decide) (xnm_no rfl) ?_
    refine e_goto (t := 34) rfl rfl rfl ?_
    exact xlfRc h
set_option maxRecDepth 4000 in
theorem bL_kept_0_59_i (v1 : Nat) (v2 : Int32) (v3 : Int32) (m : xmm) {z : Nat × xmm} (h : (if (10 : Int32) ≤ v3 then bL_kept_0_84 v1 v2 (0 : Int32) m else xgd (!(Nat.beq v1 1999)) ((fX11_order_0 v3 m).bind fun (w2 : Int32 × xmm) => xgd (xir w2.2 v1 v2) (xlt (xwi w2.2 v1 (v2).toNatClampNeg w2.1) fun (m5 : xmm) => bL_kept_0_59 v1 (v2 + (1 : Int32)) (v3 + (1 : Int32)) m5))) = some z) : bL_kept_0_59 v1 v2 v3 m = some z := by
  refine xstRc ?_
  show xTc 1 70 169 15 59 [(0, .ref 0), (1, .ref v1), (2, .int v2), (3, .int v3)] [] m (some (xvR z.1), z.2)
  refine e_iload_n rfl rfl (xnm_no rfl) ?_
  refine e_bipush (x := 10) rfl (by decide) (xnm_no rfl) ?_
  refine e_icmp_ge (t := 82) rfl rfl (xnm_no rfl) (xnm_no rfl) h (fun h => ?_) (fun h => ?_)
  · refine e_iconst (x := 0) rfl (by decide) (xnm_no rfl) ?_
    refine e_istore_n rfl rfl rfl ?_
    exact xlfRc h
  · obtain ⟨g1, h⟩ := xgd_some h
    refine e_aload_n rfl rfl (xnb g1) (xnm_no rfl) ?_
    refine e_iload_n rfl rfl (xnm_no rfl) ?_
    refine e_iinc (y := 1) rfl rfl rfl (by decide) (xnm_no rfl) ?_
    refine e_aload_n rfl rfl rfl (xnm_no rfl) ?_
    refine e_iload_n rfl rfl (xnm_no rfl) ?_
    obtain ⟨w2, hw3, h⟩ := xbd_some h
    refine e_cIVc (hc := hw3) (rest := [.int _, .ref _]) (c2 := 1) (s2 := 70) rfl rfl rfl rfl rfl rfl rfl (xadd0 rfl) (xadd0 rfl) rfl rfl (xnm_no rfl) ?_
    obtain ⟨g4, h⟩ := xgd_some h
    refine e_rast rfl g4 (xnm_no rfl) ?_
    replace h := xlt_b h
    refine e_iinc (y := 1) rfl rfl rfl (by decide) (xnm_no rfl) ?_
    refine e_goto (t := 59) rfl rfl rfl ?_
    exact xlfRc h
set_option maxRecDepth 4000 in
theorem bL_kept_0_84_i (v1 : Nat) (v2 : Int32) (v3 : Int32) (m : xmm) {z : Nat × xmm} (h : (if (8 : Int32) ≤ v3 then xgd (!(Nat.beq v1 1999)) (some (v1 + 1, m)) else xgd (!(Nat.beq v1 1999)) ((fX11_near_0 v3 m).bind fun (w3 : Int32 × xmm) => xgd (xir w3.2 v1 v2) (xlt (xwi w3.2 v1 (v2).toNatClampNeg w3.1) fun (m6 : xmm) => (fX11_post_0 v3 (2 : Int32) m6).bind fun (w7 : Int32 × xmm) => xgd (xir w7.2 v1 (v2 + (1 : Int32))) (xlt (xwi w7.2 v1 ((v2 + (1 : Int32))).toNatClampNeg w7.1) fun (m10 : xmm) => (fX11_post_0 v3 (4 : Int32) m10).bind fun (w11 : Int32 × xmm) => xgd (xir w11.2 v1 ((v2 + (1 : Int32)) + (1 : Int32))) (xlt (xwi w11.2 v1 (((v2 + (1 : Int32)) + (1 : Int32))).toNatClampNeg w11.1) fun (m14 : xmm) => (fX11_chain_0 v3 m14).bind fun (w15 : Int32 × xmm) => xgd (xir w15.2 v1 (((v2 + (1 : Int32)) + (1 : Int32)) + (1 : Int32))) (xlt (xwi w15.2 v1 ((((v2 + (1 : Int32)) + (1 : Int32)) + (1 : Int32))).toNatClampNeg w15.1) fun (m18 : xmm) => bL_kept_0_84 v1 ((((v2 + (1 : Int32)) + (1 : Int32)) + (1 : Int32)) + (1 : Int32)) (v3 + (1 : Int32)) m18)))))) = some z) : bL_kept_0_84 v1 v2 v3 m = some z := by
  refine xstRc ?_
  show xTc 1 70 169 15 84 [(0, .ref 0), (1, .ref v1), (2, .int v2), (3, .int v3)] [] m (some (xvR z.1), z.2)
  refine e_iload_n rfl rfl (xnm_no rfl) ?_
  refine e_bipush (x := 8) rfl (by decide) (xnm_no rfl) ?_
  refine e_icmp_ge (t := 142) rfl rfl (xnm_no rfl) (xnm_no rfl) h (fun h => ?_) (fun h => ?_)
  · obtain ⟨g1, h⟩ := xgd_some h
    refine e_aload_n rfl rfl (xnb g1) (xnm_no rfl) ?_
    cases h
    exact e_retRc rfl rfl (xnb g1) rfl
  · obtain ⟨g2, h⟩ := xgd_some h
    refine e_aload_n rfl rfl (xnb g2) (xnm_no rfl) ?_
    refine e_iload_n rfl rfl (xnm_no rfl) ?_
    refine e_iinc (y := 1) rfl rfl rfl (by decide) (xnm_no rfl) ?_
    refine e_aload_n rfl rfl rfl (xnm_no rfl) ?_
    refine e_iload_n rfl rfl (xnm_no rfl) ?_
    obtain ⟨w3, hw4, h⟩ := xbd_some h
    refine e_cIVc (hc := hw4) (rest := [.int _, .ref _]) (c2 := 1) (s2 := 70) rfl rfl rfl rfl rfl rfl rfl (xadd0 rfl) (xadd0 rfl) rfl rfl (xnm_no rfl) ?_
    obtain ⟨g5, h⟩ := xgd_some h
    refine e_rast rfl g5 (xnm_no rfl) ?_
    replace h := xlt_b h
    refine e_aload_n rfl rfl (xnb g2) (xnm_no rfl) ?_
    refine e_iload_n rfl rfl (xnm_no rfl) ?_
    refine e_iinc (y := 1) rfl rfl rfl (by decide) (xnm_no rfl) ?_
    refine e_aload_n rfl rfl rfl (xnm_no rfl) ?_
    refine e_iload_n rfl rfl (xnm_no rfl) ?_
    refine e_iconst (x := 2) rfl (by decide) (xnm_no rfl) ?_
    obtain ⟨w7, hw8, h⟩ := xbd_some h
    refine e_cIVc (hc := hw8) (rest := [.int _, .ref _]) (c2 := 1) (s2 := 70) rfl rfl rfl rfl rfl rfl rfl (xadd0 rfl) (xadd0 rfl) rfl rfl (xnm_no rfl) ?_
    obtain ⟨g9, h⟩ := xgd_some h
    refine e_rast rfl g9 (xnm_no rfl) ?_
    replace h := xlt_b h
    refine e_aload_n rfl rfl (xnb g2) (xnm_no rfl) ?_
    refine e_iload_n rfl rfl (xnm_no rfl) ?_
    refine e_iinc (y := 1) rfl rfl rfl (by decide) (xnm_no rfl) ?_
    refine e_aload_n rfl rfl rfl (xnm_no rfl) ?_
    refine e_iload_n rfl rfl (xnm_no rfl) ?_
    refine e_iconst (x := 4) rfl (by decide) (xnm_no rfl) ?_
    obtain ⟨w11, hw12, h⟩ := xbd_some h
    refine e_cIVc (hc := hw12) (rest := [.int _, .ref _]) (c2 := 1) (s2 := 70) rfl rfl rfl rfl rfl rfl rfl (xadd0 rfl) (xadd0 rfl) rfl rfl (xnm_no rfl) ?_
    obtain ⟨g13, h⟩ := xgd_some h
    refine e_rast rfl g13 (xnm_no rfl) ?_
    replace h := xlt_b h
    refine e_aload_n rfl rfl (xnb g2) (xnm_no rfl) ?_
    refine e_iload_n rfl rfl (xnm_no rfl) ?_
    refine e_iinc (y := 1) rfl rfl rfl (by decide) (xnm_no rfl) ?_
    refine e_aload_n rfl rfl rfl (xnm_no rfl) ?_
    refine e_iload_n rfl rfl (xnm_no rfl) ?_
    obtain ⟨w15, hw16, h⟩ := xbd_some h
    refine e_cIVc (hc := hw16) (rest := [.int _, .ref _]) (c2 := 1) (s2 := 70) rfl rfl rfl rfl rfl rfl rfl (xadd0 rfl) (xadd0 rfl) rfl rfl (xnm_no rfl) ?_
    obtain ⟨g17, h⟩ := xgd_some h
    refine e_rast rfl g17 (xnm_no rfl) ?_
    replace h := xlt_b h
    refine e_iinc (y := 1) rfl rfl rfl (by decide) (xnm_no rfl) ?_
    refine e_goto (t := 84) rfl rfl rfl ?_
    exact xlfRc h
set_option maxRecDepth 4000 in
theorem fX3_lineAt_i (v0 : Nat) (v1 : Int32) (m : xmm) {z : Int32 × xmm} (h : (bX3_lineAt_4 v0 v1 (0 : Int32) (0 : Int32) m) = some z) : fX3_lineAt v0 v1 m = some z := by
  refine xstI ?_
  show xT 30 2 0 [(0, .ref v0), (1, .int v1)] [] m (some (.int z.1), z.2)
  refine e_iconst (x := 0) rfl (by decide) (xnm_no rfl) ?_
  refine e_istore_n rfl rfl (xnm_no rfl) ?_
  refine e_iconst (x := 0) rfl (by decide) (xnm_no rfl) ?_
  refine e_istore_n rfl rfl rfl ?_
  exact xlfI h
set_option maxRecDepth 4000 in
theorem bX3_lineAt_4_i (v0 : Nat) (v1 : Int32) (v2 : Int32) (v3 : Int32) (m : xmm) {z : Int32 × xmm} (h : (if (64 : Int32) ≤ v3 then some ((-1 : Int32), m) else (fX11_against v3 m).bind fun (w1 : Int32 × xmm) => if w1.1 ≤ v3 then bX3_lineAt_4 v0 v1 v2 (v3 + (1 : Int32)) w1.2 else xgd (!(Nat.beq v0 1999)) (xgd (xob v0 3) (xgr (xR0 v0 2) fun r5 => (fX11_isArrow r5 v3 w1.2).bind fun (w7 : Int32 × xmm) => if w7.1 = 0 then bX3_lineAt_4 v0 v1 v2 (v3 + (1 : Int32)) w7.2 else if v2 = v1 then some (v3, w7.2) else bX3_lineAt_4 v0 v1 (v2 + (1 : Int32)) (v3 + (1 : Int32)) w7.2))) = some z) : bX3_lineAt_4 v0 v1 v2 v3 m = some z := by
  refine xstI ?_
  show xT 30 2 4 [(0, .ref v0), (1, .int v1), (2, .int v2), (3, .int v3)] [] m (some (.int z.1), z.2)
  refine e_iload_n rfl rfl (xnm_no rfl) ?_
  refine e_bipush (x := 64) rfl (by decide) (xnm_no rfl) ?_
  refine e_icmp_ge (t := 45) rfl rfl (xnm_no rfl) (xnm_no rfl) h (fun h => ?_) (fun h => ?_)
  · refine e_iconst (x := -1) rfl (by decide) (xnm_no rfl) ?_
    cases h
    exact e_retI rfl rfl
  · refine e_iload_n rfl rfl (xnm_no rfl) ?_
    refine e_iload_n rfl rfl (xnm_no rfl) ?_
    obtain ⟨w1, hw2, h⟩ := xbd_some h
    refine e_cIS (hc := hw2) (rest := [.int _]) rfl rfl rfl rfl rfl rfl rfl rfl (xnm_no rfl) ?_
    refine e_icmp_ge (t := 39) rfl rfl (xnm_no rfl) (xnm_no rfl) h (fun h => ?_) (fun h => ?_)
    · refine e_iinc (y := 1) rfl rfl rfl (by decide) (xnm_no rfl) ?_
      refine e_goto (t := 4) rfl rfl rfl ?_
      exact xlfI h
    · obtain ⟨g3, h⟩ := xgd_some h
      refine e_aload_n rfl rfl (xnb g3) (xnm_no rfl) ?_
      obtain ⟨g4, h⟩ := xgd_some h
      obtain ⟨r5, hr6, h⟩ := xgr_some h
      refine e_getR rfl rfl rfl g4 hr6 (xnm_no rfl) ?_
      refine e_iload_n rfl rfl (xnm_no rfl) ?_
      obtain ⟨w7, hw8, h⟩ := xbd_some h
      refine e_cIS (hc := hw8) (rest := []) rfl rfl rfl rfl rfl rfl rfl rfl (xnm_no rfl) ?_
      refine e_if_eq (t := 39) rfl rfl (xnm_no rfl) (xnm_no rfl) h (fun h => ?_) (fun h => ?_)
      · refine e_iinc (y := 1) rfl rfl rfl (by decide) (xnm_no rfl) ?_
        refine e_goto (t := 4) rfl rfl rfl ?_
        exact xlfI h
      · refine e_iload_n rfl rfl (xnm_no rfl) ?_
        refine e_iload_n rfl rfl (xnm_no rfl) ?_
        refine e_icmp_ne (t := 36) rfl rfl (xnm_no rfl) (xnm_no rfl) h (fun h => ?_) (fun h => ?_)
        · refine e_iinc (y := 1) rfl rfl rfl (by decide) (xnm_no rfl) ?_
          refine e_iinc (y := 1) rfl rfl rfl (by decide) (xnm_no rfl) ?_
          refine e_goto (t := 4) rfl rfl rfl ?_
          exact xlfI h
        · refine e_iload_n rfl rfl (xnm_no rfl) ?_
          cases h
          exact e_retI rfl rfl
