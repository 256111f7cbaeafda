set_option maxRecDepth 4000 in
theorem fX11_heldIn_0_i (v1 : Int32) (m : xmm) {z : Nat × xmm} (h : (if v1 < 0 then some ((0 : Nat), m) else if (3 : Int32) ≤ v1 then some ((0 : Nat), m) else (fX11_contains (m.1 0 5) v1 m).bind fun (w1 : Int32 × xmm) => if w1.1 = 0 then some ((0 : Nat), w1.2) else xgd (xinb 3 v1) (xgr (xR0 96 (v1).toNatClampNeg) fun r4 => xgd (!(Nat.beq r4 1999)) (some (r4 + 1, w1.2)))) = some z) : fX11_heldIn_0 v1 m = some z := by
  refine xstR ?_
  show xT 149 1 0 [(0, .ref 0), (1, .int v1)] [] m (some (xvR z.1), z.2)
  refine e_iload_n rfl rfl (xnm_no rfl) ?_
  refine e_if_lt (t := 20) rfl rfl (xnm_no rfl) (xnm_no rfl) h (fun h => ?_) (fun h => ?_)
  · refine e_null rfl (xnm_no rfl) ?_
    cases h
    exact e_retN rfl rfl
  · refine e_iload_n rfl rfl (xnm_no rfl) ?_
    refine e_iconst (x := 3) rfl (by decide) (xnm_no rfl) ?_
    refine e_icmp_ge (t := 20) rfl rfl (xnm_no rfl) (xnm_no rfl) h (fun h => ?_) (fun h => ?_)
    · refine e_null rfl (xnm_no rfl) ?_
      cases h
      exact e_retN rfl rfl
    · refine e_aload_n rfl rfl rfl (xnm_no rfl) ?_
      refine e_getI rfl rfl rfl rfl (xnm_no rfl) ?_
      refine e_iload_n rfl rfl (xnm_no rfl) ?_
      obtain ⟨w1, hw2, h⟩ := xbd_some h
      refine e_cIS (hc := hw2) (rest := []) rfl rfl rfl rfl rfl rfl rfl rfl (xnm_no rfl) ?_
      refine e_if_ne (t := 22) rfl rfl (xnm_no rfl) (xnm_no rfl) h (fun h => ?_) (fun h => ?_)
      · refine e_aload_n rfl rfl rfl (xnm_no rfl) ?_
        refine e_getR (r := 96) rfl rfl rfl rfl rfl (xnm_no rfl) ?_
        refine e_iload_n rfl rfl (xnm_no rfl) ?_
        obtain ⟨g3, h⟩ := xgd_some h
        obtain ⟨r4, hr5, h⟩ := xgr_some h
        refine e_aald rfl g3 rfl hr5 (xnm_no rfl) ?_
        obtain ⟨g6, h⟩ := xgd_some h
        cases h
        exact e_retR rfl rfl (xnb g6)
      · refine e_null rfl (xnm_no rfl) ?_
        cases h
        exact e_retN rfl rfl
set_option maxRecDepth 4000 in
theorem fX8_ways_136_10_i (v2 : Nat) (m : xmm) {z : Int32 × xmm} (h : (xlt (if (8 : Int32) < (m.1 10 0) then (8 : Int32) else (m.1 10 0)) fun (x1 : Int32) => xgd (!(Nat.beq v2 1999)) (xgd (xob v2 3) (if (m.1 10 0) = (m.1 v2 0) then xgr (xR0 v2 2) fun r4 => xgd (xcg 93 13 96 [.ref 11, .ref r4, .ref 137, .int (0 : Int32), .int x1, .int (0 : Int32)] []) ((fX8_canSend 11 r4 137 (0 : Int32) x1 (0 : Int32) m).bind fun (w6 : Int32 × xmm) => if w6.1 = 0 then some ((0 : Int32), w6.2) else (fX8_waysToItself_136 11 x1 w6.2).bind fun (w9 : Int32 × xmm) => some (w9.1, w9.2)) else some ((0 : Int32), m)))) = some z) : fX8_ways_136_10 v2 m = some z := by
  refine xstI ?_
  show xT 93 13 0 [(0, .ref 136), (1, .ref 10), (2, .ref v2)] [] m (some (.int z.1), z.2)
  refine e_aload_n rfl rfl rfl (xnm_no rfl) ?_
  refine e_getI rfl rfl rfl rfl (xnm_no rfl) ?_
  refine e_bipush (x := 8) rfl (by decide) (xnm_no rfl) ?_
  refine e_min rfl rfl rfl (xnm_no rfl) ?_
  replace h := xlt_b h
  refine e_istore_n rfl rfl (xnm_no rfl) ?_
  refine e_aload_n rfl rfl rfl (xnm_no rfl) ?_
  refine e_getI rfl rfl rfl rfl (xnm_no rfl) ?_
  obtain ⟨g2, h⟩ := xgd_some h
  refine e_aload_n rfl rfl (xnb g2) (xnm_no rfl) ?_
  obtain ⟨g3, h⟩ := xgd_some h
  refine e_getI rfl rfl rfl g3 (xnm_no rfl) ?_
  refine e_icmp_ne (t := 42) rfl rfl (xnm_no rfl) (xnm_no rfl) h (fun h => ?_) (fun h => ?_)
  · refine e_iconst (x := 0) rfl (by decide) (xnm_no rfl) ?_
    cases h
    exact e_retI rfl rfl
  · refine e_aload_n rfl rfl rfl (xnm_no rfl) ?_
    refine e_getR (r := 11) rfl rfl rfl rfl rfl (xnm_no rfl) ?_
    refine e_aload_n rfl rfl (xnb g2) (xnm_no rfl) ?_
    obtain ⟨r4, hr5, h⟩ := xgr_some h
    refine e_getR rfl rfl rfl g3 hr5 (xnm_no rfl) ?_
    refine e_aload_n rfl rfl rfl (xnm_no rfl) ?_
    refine e_getR (r := 137) rfl rfl rfl rfl rfl (xnm_no rfl) ?_
    refine e_iconst (x := 0) rfl (by decide) (xnm_no rfl) ?_
    refine e_iload_n rfl rfl (xnm_no rfl) ?_
    refine e_iconst (x := 0) rfl (by decide) (xnm_no rfl) ?_
    obtain ⟨g8, h⟩ := xgd_some h
    obtain ⟨w6, hw7, h⟩ := xbd_some h
    refine e_cIS (hc := hw7) (rest := []) rfl rfl rfl rfl rfl rfl g8 rfl (xnm_no rfl) ?_
    refine e_if_ne (t := 44) rfl rfl (xnm_no rfl) (xnm_no rfl) h (fun h => ?_) (fun h => ?_)
    · refine e_aload_n rfl rfl rfl (xnm_no rfl) ?_
      refine e_aload_n rfl rfl rfl (xnm_no rfl) ?_
      refine e_getR (r := 11) rfl rfl rfl rfl rfl (xnm_no rfl) ?_
      refine e_iload_n rfl rfl (xnm_no rfl) ?_
      obtain ⟨w9, hw10, h⟩ := xbd_some h
      refine e_cIV (hc := hw10) (rest := []) rfl rfl rfl rfl rfl rfl rfl rfl (xnm_no rfl) ?_
      cases h
      exact e_retI rfl rfl
    · refine e_iconst (x := 0) rfl (by decide) (xnm_no rfl) ?_
      cases h
      exact e_retI rfl rfl
set_option maxRecDepth 4000 in
theorem fX11_like_0_i (v1 : Int32) (m : xmm) {z : Int32 × xmm} (h : ((fX11_heldIn_0 v1 m).bind fun (w1 : Nat × xmm) => xrc w1.1 (some ((-1 : Int32), w1.2)) fun k3 => xgd (!(Nat.beq k3 1999)) ((fX8_ways_136_10 k3 w1.2).bind fun (w6 : Int32 × xmm) => some (w6.1, w6.2))) = some z) : fX11_like_0 v1 m = some z := by
  refine xstI ?_
  show xT 139 14 0 [(0, .ref 0), (1, .int v1)] [] m (some (.int z.1), z.2)
  refine e_aload_n rfl rfl rfl (xnm_no rfl) ?_
  refine e_iload_n rfl rfl (xnm_no rfl) ?_
  obtain ⟨w1, hw2, h⟩ := xbd_some h
  refine e_cRV (hc := hw2) (rest := []) rfl rfl rfl rfl rfl rfl rfl rfl (xnm_no rfl) ?_
  rcases w1 with ⟨_ | k3, m4⟩
  · refine e_astore_nN rfl rfl (xnm_no rfl) ?_
    refine e_aload_nN rfl rfl (xnm_no rfl) ?_
    refine e_nonnullN rfl (xnm_no rfl) ?_
    refine e_iconst (x := -1) rfl (by decide) (xnm_no rfl) ?_
    refine e_goto (t := 26) rfl rfl (xnm_no rfl) ?_
    cases h
    exact e_retI rfl rfl
  · obtain ⟨g5, h⟩ := xgd_some h
    refine e_astore_n rfl rfl (xnb g5) (xnm_no rfl) ?_
    refine e_aload_n rfl rfl (xnb g5) (xnm_no rfl) ?_
    refine e_nonnull (t := 14) rfl (xnb g5) rfl (xnm_no rfl) ?_
    refine e_aload_n rfl rfl rfl (xnm_no rfl) ?_
    refine e_getR (r := 136) rfl rfl rfl rfl rfl (xnm_no rfl) ?_
    refine e_aload_n rfl rfl rfl (xnm_no rfl) ?_
    refine e_getR (r := 10) rfl rfl rfl rfl rfl (xnm_no rfl) ?_
    refine e_aload_n rfl rfl (xnb g5) (xnm_no rfl) ?_
    obtain ⟨w6, hw7, h⟩ := xbd_some h
    refine e_cIV (hc := hw7) (rest := []) rfl rfl rfl rfl rfl rfl rfl rfl (xnm_no rfl) ?_
    cases h
    exact e_retI rfl rfl
set_option maxRecDepth 4000 in
theorem fX7_hasRoom_1_i (m : xmm) {z : Int32 × xmm} (h : (if (2000 : Int32) < ((m.1 1 1) + (20 : Int32)) then some ((0 : Int32), m) else some ((1 : Int32), m)) = some z) : fX7_hasRoom_1 m = some z := by
  refine xstI ?_
  show xT 70 0 0 [(0, .ref 1)] [] m (some (.int z.1), z.2)
  refine e_aload_n rfl rfl rfl (xnm_no rfl) ?_
  refine e_getI rfl rfl rfl rfl (xnm_no rfl) ?_
  refine e_bipush (x := 20) rfl (by decide) (xnm_no rfl) ?_
  refine e_iadd rfl (xnm_no rfl) ?_
  refine e_sipush (x := 2000) rfl (by decide) (xnm_no rfl) ?_
  refine e_icmp_gt (t := 17) rfl rfl (xnm_no rfl) (xnm_no rfl) h (fun h => ?_) (fun h => ?_)
  · refine e_iconst (x := 0) rfl (by decide) (xnm_no rfl) ?_
    cases h
    exact e_retI rfl (by decide)
  · refine e_iconst (x := 1) rfl (by decide) (xnm_no rfl) ?_
    refine e_goto (t := 18) rfl rfl (xnm_no rfl) ?_
    cases h
    exact e_retI rfl (by decide)
set_option maxRecDepth 4000 in
theorem fX7_addWord_1_i (v1 : Int32) (m : xmm) {z : xmm} (h : (bX7_addWord_1_3 v1 (24 : Int32) m) = some z) : fX7_addWord_1 v1 m = some z := by
  refine xstV ?_
  show xT 71 0 0 [(0, .ref 1), (1, .int v1)] [] m (none, z)
  refine e_bipush (x := 24) rfl (by decide) (xnm_no rfl) ?_
  refine e_istore_n rfl rfl rfl ?_
  exact xlfV h
set_option maxRecDepth 4000 in
theorem bX7_addWord_1_3_i (v1 : Int32) (v2 : Int32) (m : xmm) {z : xmm} (h : (if v2 < 0 then some m else if (2000 : Int32) ≤ (m.1 1 1) then some m else xgd (xinb 2000 (m.1 1 1)) (xlt (xwi m 2 ((m.1 1 1)).toNatClampNeg (Int32.toInt8 ((Int32.toInt8 (v1 >>> (v2 &&& 31))).toInt32)).toInt32) fun (m2 : xmm) => xlt (xwi m2 1 1 ((m2.1 1 1) + (1 : Int32))) fun (m3 : xmm) => bX7_addWord_1_3 v1 (v2 + (-8 : Int32)) m3)) = some z) : bX7_addWord_1_3 v1 v2 m = some z := by
  refine xstV ?_
  show xT 71 0 3 [(0, .ref 1), (1, .int v1), (2, .int v2)] [] m (none, z)
  refine e_iload_n rfl rfl (xnm_no rfl) ?_
  refine e_if_lt (t := 46) rfl rfl (xnm_no rfl) (xnm_no rfl) h (fun h => ?_) (fun h => ?_)
  · cases h
    exact e_retV rfl rfl
  · refine e_aload_n rfl rfl rfl (xnm_no rfl) ?_
    refine e_getI rfl rfl rfl rfl (xnm_no rfl) ?_
    refine e_sipush (x := 2000) rfl (by decide) (xnm_no rfl) ?_
    refine e_icmp_ge (t := 46) rfl rfl (xnm_no rfl) (xnm_no rfl) h (fun h => ?_) (fun h => ?_)
    · cases h
      exact e_retV rfl rfl
    · refine e_aload_n rfl rfl rfl (xnm_no rfl) ?_
      refine e_getR (r := 2) rfl rfl rfl rfl rfl (xnm_no rfl) ?_
      refine e_aload_n rfl rfl rfl (xnm_no rfl) ?_
      refine e_getI rfl rfl rfl rfl (xnm_no rfl) ?_
      refine e_iload_n rfl rfl (xnm_no rfl) ?_
      refine e_iload_n rfl rfl (xnm_no rfl) ?_
      refine e_ishr rfl (xnm_no rfl) ?_
      refine e_i2b rfl (xnm_no rfl) ?_
      obtain ⟨g1, h⟩ := xgd_some h
      refine e_bast rfl g1 (xnm_no rfl) ?_
      replace h := xlt_b h
      refine e_aload_n rfl rfl rfl (xnm_no rfl) ?_
      refine e_dup rfl rfl (xnm_no rfl) ?_
      refine e_getI rfl rfl rfl rfl (xnm_no rfl) ?_
      refine e_iconst (x := 1) rfl (by decide) (xnm_no rfl) ?_
      refine e_iadd rfl (xnm_no rfl) ?_
      refine e_putI rfl rfl rfl rfl (xnm_no rfl) ?_
      replace h := xlt_b h
      refine e_iinc (y := -8) rfl rfl rfl (by decide) (xnm_no rfl) ?_
      refine e_goto (t := 3) rfl rfl rfl ?_
      exact xlfV h
set_option maxRecDepth 4000 in
theorem fX11_feed_0_i (v1 : Int32) (v2 : Int32) (v3 : Int32) (v4 : Int32) (v5 : Int32) (m : xmm) {z : Int32 × xmm} (h : ((fX7_hasRoom_1 m).bind fun (w1 : Int32 × xmm) => if w1.1 = 0 then some ((-1 : Int32), w1.2) else (fX7_addWord_1 v1 w1.2).bind fun (w3 : xmm) => (fX7_addWord_1 v2 w3).bind fun (w5 : xmm) => (fX7_addWord_1 v3 w5).bind fun (w7 : xmm) => (fX7_addWord_1 v4 w7).bind fun (w9 : xmm) => (fX7_addWord_1 v5 w9).bind fun (w11 : xmm) => some ((w11.1 1 1), w11)) = some z) : fX11_feed_0 v1 v2 v3 v4 v5 m = some z := by
  refine xstI ?_
  show xT 115 1 0 [(0, .ref 0), (1, .int v1), (2, .int v2), (3, .int v3), (4, .int v4), (5, .int v5)] [] m (some (.int z.1), z.2)
  refine e_aload_n rfl rfl rfl (xnm_no rfl) ?_
  refine e_getR (r := 1) rfl rfl rfl rfl rfl (xnm_no rfl) ?_
  obtain ⟨w1, hw2, h⟩ := xbd_some h
  refine e_cIV (hc := hw2) (rest := []) rfl rfl rfl rfl rfl rfl rfl rfl (xnm_no rfl) ?_
  refine e_if_ne (t := 12) rfl rfl (xnm_no rfl) (xnm_no rfl) h (fun h => ?_) (fun h => ?_)
  · refine e_aload_n rfl rfl rfl (xnm_no rfl) ?_
    refine e_getR (r := 1) rfl rfl rfl rfl rfl (xnm_no rfl) ?_
    refine e_iload_n rfl rfl (xnm_no rfl) ?_
    obtain ⟨w3, hw4, h⟩ := xbd_some h
    refine e_cVV (hc := hw4) (rest := []) rfl rfl rfl rfl rfl rfl rfl rfl (xnm_no rfl) ?_
    refine e_aload_n rfl rfl rfl (xnm_no rfl) ?_
    refine e_getR (r := 1) rfl rfl rfl rfl rfl (xnm_no rfl) ?_
    refine e_iload_n rfl rfl (xnm_no rfl) ?_
    obtain ⟨w5, hw6, h⟩ := xbd_some h
    refine e_cVV (hc := hw6) (rest := []) rfl rfl rfl rfl rfl rfl rfl rfl (xnm_no rfl) ?_
    refine e_aload_n rfl rfl rfl (xnm_no rfl) ?_
    refine e_getR (r := 1) rfl rfl rfl rfl rfl (xnm_no rfl) ?_
    refine e_iload_n rfl rfl (xnm_no rfl) ?_
    obtain ⟨w7, hw8, h⟩ := xbd_some h
    refine e_cVV (hc := hw8) (rest := []) rfl rfl rfl rfl rfl rfl rfl rfl (xnm_no rfl) ?_
    refine e_aload_n rfl rfl rfl (xnm_no rfl) ?_
    refine e_getR (r := 1) rfl rfl rfl rfl rfl (xnm_no rfl) ?_
    refine e_iload rfl rfl (xnm_no rfl) ?_
    obtain ⟨w9, hw10, h⟩ := xbd_some h
    refine e_cVV (hc := hw10) (rest := []) rfl rfl rfl rfl rfl rfl rfl rfl (xnm_no rfl) ?_
    refine e_aload_n rfl rfl rfl (xnm_no rfl) ?_
    refine e_getR (r := 1) rfl rfl rfl rfl rfl (xnm_no rfl) ?_
    refine e_iload rfl rfl (xnm_no rfl) ?_
    obtain ⟨w11, hw12, h⟩ := xbd_some h
    refine e_cVV (hc := hw12) (rest := []) rfl rfl rfl rfl rfl rfl rfl rfl (xnm_no rfl) ?_
    refine e_aload_n rfl rfl rfl (xnm_no rfl) ?_
    refine e_getR (r := 1) rfl rfl rfl rfl rfl (xnm_no rfl) ?_
    refine e_getI rfl rfl rfl rfl (xnm_no rfl) ?_
    cases h
    exact e_retI rfl rfl
  · refine e_iconst (x := -1) rfl (by decide) (xnm_no rfl) ?_
    cases h
    exact e_retI rfl rfl
set_option maxRecDepth 4000 in
theorem fX11_back_0_i (v1 : Int32) (m : xmm) {z : Int32 × xmm} (h : (if v1 < 0 then some ((-1 : Int32), m) else if v1 ≤ (m.1 1 1) then xlt (xwi m 1 1 ((m.1 1 1) - v1)) fun (m1 : xmm) => some ((m1.1 1 1), m1) else some ((-1 : Int32), m)) = some z) : fX11_back_0 v1 m = some z := by
  refine xstI ?_
  show xT 116 0 0 [(0, .ref 0), (1, .int v1)] [] m (some (.int z.1), z.2)
  refine e_iload_n rfl rfl (xnm_no rfl) ?_
  refine e_if_lt (t := 15) rfl rfl (xnm_no rfl) (xnm_no rfl) h (fun h => ?_) (fun h => ?_)
  · refine e_iconst (x := -1) rfl (by decide) (xnm_no rfl) ?_
    cases h
    exact e_retI rfl rfl
  · refine e_iload_n rfl rfl (xnm_no rfl) ?_
    refine e_aload_n rfl rfl rfl (xnm_no rfl) ?_
    refine e_getR (r := 1) rfl rfl rfl rfl rfl (xnm_no rfl) ?_
    refine e_getI rfl rfl rfl rfl (xnm_no rfl) ?_
    refine e_icmp_le (t := 17) rfl rfl (xnm_no rfl) (xnm_no rfl) h (fun h => ?_) (fun h => ?_)
    · refine e_aload_n rfl rfl rfl (xnm_no rfl) ?_
      refine e_getR (r := 1) rfl rfl rfl rfl rfl (xnm_no rfl) ?_
      refine e_dup rfl rfl (xnm_no rfl) ?_
      refine e_getI rfl rfl rfl rfl (xnm_no rfl) ?_
      refine e_iload_n rfl rfl (xnm_no rfl) ?_
      refine e_isub rfl (xnm_no rfl) ?_
      refine e_putI rfl rfl rfl rfl (xnm_no rfl) ?_
      replace h := xlt_b h
      refine e_aload_n rfl rfl rfl (xnm_no rfl) ?_
      refine e_getR (r := 1) rfl rfl rfl rfl rfl (xnm_no rfl) ?_
      refine e_getI rfl rfl rfl rfl (xnm_no rfl) ?_
      cases h
      exact e_retI rfl rfl
    · refine e_iconst (x := -1) rfl (by decide) (xnm_no rfl) ?_
      cases h
      exact e_retI rfl rfl
set_option maxRecDepth 4000 in
theorem fL_put_0_i (v1 : Int32) (v2 : Int32) (v3 : Int32) (v4 : Int32) (v5 : Int32) (v6 : Int32) (m : xmm) {z : xmm} (h : ((fX11_feed_0 v2 v3 v4 v5 v6 m).bind fun (w1 : Int32 × xmm) => (fX11_back_0 ((20 : Int32) - v1) w1.2).bind fun (w3 : Int32 × xmm) => some w3.2) = some z) : fL_put_0 v1 v2 v3 v4 v5 v6 m = some z := by
  refine xstV ?_
  show xT 163 2 0 [(0, .ref 0), (1, .int v1), (2, .int v2), (3, .int v3), (4, .int v4), (5, .int v5), (6, .int v6)] [] m (none, z)
  refine e_aload_n rfl rfl rfl (xnm_no rfl) ?_
  refine e_iload_n rfl rfl (xnm_no rfl) ?_
  refine e_iload_n rfl rfl (xnm_no rfl) ?_
  refine e_iload rfl rfl (xnm_no rfl) ?_
  refine e_iload rfl rfl (xnm_no rfl) ?_
  refine e_iload rfl rfl (xnm_no rfl) ?_
  obtain ⟨w1, hw2, h⟩ := xbd_some h
  refine e_cIV (hc := hw2) (rest := []) rfl rfl rfl rfl rfl rfl rfl rfl (xnm_no rfl) ?_
  refine e_pop rfl rfl (xnm_no rfl) ?_
  refine e_aload_n rfl rfl rfl (xnm_no rfl) ?_
  refine e_bipush (x := 20) rfl (by decide) (xnm_no rfl) ?_
  refine e_iload_n rfl rfl (xnm_no rfl) ?_
  refine e_isub rfl (xnm_no rfl) ?_
  obtain ⟨w3, hw4, h⟩ := xbd_some h
  refine e_cIV (hc := hw4) (rest := []) rfl rfl rfl rfl rfl rfl rfl rfl (xnm_no rfl) ?_
  refine e_pop rfl rfl (xnm_no rfl) ?_
  cases h
  exact e_retV rfl rfl
set_option maxRecDepth 4000 in
theorem fL_sign_0_i (v1 : Int32) (m : xmm) {z : xmm} (h : ((fX11_feed_0 (v1 <<< ((24 : Int32) &&& 31)) (0 : Int32) (0 : Int32) (0 : Int32) (0 : Int32) m).bind fun (w1 : Int32 × xmm) => (fX11_back_0 (19 : Int32) w1.2).bind fun (w3 : Int32 × xmm) => some w3.2) = some z) : fL_sign_0 v1 m = some z := by
  refine xstV ?_
  show xT 164 2 0 [(0, .ref 0), (1, .int v1)] [] m (none, z)
  refine e_aload_n rfl rfl rfl (xnm_no rfl) ?_
  refine e_iload_n rfl rfl (xnm_no rfl) ?_
  refine e_bipush (x := 24) rfl (by decide) (xnm_no rfl) ?_
  refine e_ishl rfl (xnm_no rfl) ?_
  refine e_iconst (x := 0) rfl (by decide) (xnm_no rfl) ?_
  refine e_iconst (x := 0) rfl (by decide) (xnm_no rfl) ?_
  refine e_iconst (x := 0) rfl (by decide) (xnm_no rfl) ?_
  refine e_iconst (x := 0) rfl (by decide) (xnm_no rfl) ?_
  obtain ⟨w1, hw2, h⟩ := xbd_some h
  refine e_cIV (hc := hw2) (rest := []) rfl rfl rfl rfl rfl rfl rfl rfl (xnm_no rfl) ?_
  refine e_pop rfl rfl (xnm_no rfl) ?_
  refine e_aload_n rfl rfl rfl (xnm_no rfl) ?_
  refine e_bipush (x := 19) rfl (by decide) (xnm_no rfl) ?_
  obtain ⟨w3, hw4, h⟩ := xbd_some h
  refine e_cIV (hc := hw4) (rest := []) rfl rfl rfl rfl rfl rfl rfl rfl (xnm_no rfl) ?_
  refine e_pop rfl rfl (xnm_no rfl) ?_
  cases h
  exact e_retV rfl rfl
set_option maxRecDepth 4000 in
theorem fL_number_0_i (v1 : Int32) (m : xmm) {z : xmm} (h : (bL_number_0_2 v1 (1 : Int32) m) = some z) : fL_number_0 v1 m = some z := by
  refine xstV ?_
  show xT 165 3 0 [(0, .ref 0), (1, .int v1)] [] m (none, z)
  refine e_iconst (x := 1) rfl (by decide) (xnm_no rfl) ?_
  refine e_istore_n rfl rfl rfl ?_
  exact xlfV h
set_option maxRecDepth 4000 in
theorem bL_number_0_2_i (v1 : Int32) (v2 : Int32) (m : xmm) {z : xmm} (h : (if (v1 / (10 : Int32)) < v2 then bL_number_0_18 v1 v2 m else bL_number_0_2 v1 (v2 * (10 : Int32)) m) = some z) : bL_number_0_2 v1 v2 m = some z := by
  refine xstV ?_
  show xT 165 3 2 [(0, .ref 0), (1, .int v1), (2, .int v2)] [] m (none, z)
  refine e_iload_n rfl rfl (xnm_no rfl) ?_
  refine e_iload_n rfl rfl (xnm_no rfl) ?_
  refine e_bipush (x := 10) rfl (by decide) (xnm_no rfl) ?_
  refine e_idiv rfl (by decide) (xnm_no rfl) ?_
  refine e_icmp_gt (t := 18) rfl rfl rfl (xnm_no rfl) h (fun h => ?_) (fun h => ?_)
  · exact xlfV h
  · refine e_iload_n rfl rfl (xnm_no rfl) ?_
    refine e_bipush (x := 10) rfl (by decide) (xnm_no rfl) ?_
    refine e_imul rfl (xnm_no rfl) ?_
    refine e_istore_n rfl rfl (xnm_no rfl) ?_
    refine e_goto (t := 2) rfl rfl rfl ?_
    exact xlfV h
set_option maxRecDepth 4000 in
theorem bL_number_0_18_i (v1 : Int32) (v2 : Int32) (m : xmm) {z : xmm} (h : (if v2 ≤ 0 then some m else xgd (!(decide (v2 = 0))) ((fL_sign_0 ((48 : Int32) + ((v1 / v2) - (v1 / v2) / (10 : Int32) * (10 : Int32))) m).bind fun (w2 : xmm) => bL_number_0_18 v1 (v2 / (10 : Int32)) w2)) = some z) : bL_number_0_18 v1 v2 m = some z := by
  refine xstV ?_
  show xT 165 3 18 [(0, .ref 0), (1, .int v1), (2, .int v2)] [] m (none, z)
  refine e_iload_n rfl rfl (xnm_no rfl) ?_
  refine e_if_le (t := 43) rfl rfl (xnm_no rfl) (xnm_no rfl) h (fun h => ?_) (fun h => ?_)
  · cases h
    exact e_retV rfl rfl
  · refine e_aload_n rfl rfl rfl (xnm_no rfl) ?_
    refine e_bipush (x := 48) rfl (by decide) (xnm_no rfl) ?_
    refine e_iload_n rfl rfl (xnm_no rfl) ?_
    refine e_iload_n rfl rfl (xnm_no rfl) ?_
    obtain ⟨g1, h⟩ := xgd_some h
    refine e_idiv rfl (xnz g1) (xnm_no rfl) ?_
    refine e_bipush (x := 10) rfl (by decide) (xnm_no rfl) ?_
    refine e_irem rfl (by decide) (xnm_no rfl) ?_
    refine e_iadd rfl (xnm_no rfl) ?_
    obtain ⟨w2, hw3, h⟩ := xbd_some h
    refine e_cVS (hc := hw3) (rest := []) rfl rfl rfl rfl rfl rfl rfl rfl (xnm_no rfl) ?_
    refine e_iload_n rfl rfl (xnm_no rfl) ?_
    refine e_bipush (x := 10) rfl (by decide) (xnm_no rfl) ?_
    refine e_idiv rfl (by decide) (xnm_no rfl) ?_
    refine e_istore_n rfl rfl (xnm_no rfl) ?_
    refine e_goto (t := 18) rfl rfl rfl ?_
    exact xlfV h
set_option maxRecDepth 4000 in
theorem fL_told_0_i (v1 : Int32) (v2 : Int32) (v3 : Int32) (m : xmm) {z : xmm} (h : ((fL_put_0 (5 : Int32) (1886352244 : Int32) (1929379840 : Int32) (0 : Int32) (0 : Int32) (0 : Int32) m).bind fun (w1 : xmm) => bL_told_0_15 v1 v2 v3 (0 : Int32) w1) = some z) : fL_told_0 v1 v2 v3 m = some z := by
  refine xstV ?_
  show xT 166 4 0 [(0, .ref 0), (1, .int v1), (2, .int v2), (3, .int v3)] [] m (none, z)
  refine e_aload_n rfl rfl rfl (xnm_no rfl) ?_
  refine e_iconst (x := 5) rfl (by decide) (xnm_no rfl) ?_
  refine e_ldcI (v := 1886352244) rfl rfl (xnm_no rfl) ?_
  refine e_ldcI (v := 1929379840) rfl rfl (xnm_no rfl) ?_
  refine e_iconst (x := 0) rfl (by decide) (xnm_no rfl) ?_
  refine e_iconst (x := 0) rfl (by decide) (xnm_no rfl) ?_
  refine e_iconst (x := 0) rfl (by decide) (xnm_no rfl) ?_
  obtain ⟨w1, hw2, h⟩ := xbd_some h
  refine e_cVS (hc := hw2) (rest := []) rfl rfl rfl rfl rfl rfl rfl rfl (xnm_no rfl) ?_
  refine e_iconst (x := 0) rfl (by decide) (xnm_no rfl) ?_
  refine e_istore rfl rfl rfl ?_
  exact xlfV h
set_option maxRecDepth 4000 in
theorem bL_told_0_15_i (v1 : Int32) (v2 : Int32) (v3 : Int32) (v4 : Int32) (m : xmm) {z : xmm} (h : (if v1 ≤ v4 then (fL_sign_0 (59 : Int32) m).bind fun (w1 : xmm) => if v1 = 0 then some w1 else bL_told_0_62 v1 v2 v3 (0 : Int32) w1 else (fL_sign_0 (32 : Int32) m).bind fun (w3 : xmm) => (fL_sign_0 (114 : Int32) w3).bind fun (w5 : xmm) => (fL_sign_0 ((97 : Int32) + v4) w5).bind fun (w7 : xmm) => bL_told_0_15 v1 v2 v3 (v4 + (1 : Int32)) w7) = some z) : bL_told_0_15 v1 v2 v3 v4 m = some z := by
  refine xstV ?_
  show xT 166 4 15 [(0, .ref 0), (1, .int v1), (2, .int v2), (3, .int v3), (4, .int v4)] [] m (none, z)
  refine e_iload rfl rfl (xnm_no rfl) ?_
  refine e_iload_n rfl rfl (xnm_no rfl) ?_
  refine e_icmp_ge (t := 48) rfl rfl (xnm_no rfl) (xnm_no rfl) h (fun h => ?_) (fun h => ?_)
  · refine e_aload_n rfl rfl rfl (xnm_no rfl) ?_
    refine e_bipush (x := 59) rfl (by decide) (xnm_no rfl) ?_
    obtain ⟨w1, hw2, h⟩ := xbd_some h
    refine e_cVS (hc := hw2) (rest := []) rfl rfl rfl rfl rfl rfl rfl rfl (xnm_no rfl) ?_
    refine e_iload_n rfl rfl (xnm_no rfl) ?_
    refine e_if_ne (t := 59) rfl rfl (xnm_no rfl) (xnm_no rfl) h (fun h => ?_) (fun h => ?_)
    · refine e_iconst (x := 0) rfl (by decide) (xnm_no rfl) ?_
      refine e_istore rfl rfl rfl ?_
      exact xlfV h
    · cases h
      exact e_retV rfl rfl
  · refine e_aload_n rfl rfl rfl (xnm_no rfl) ?_
    refine e_bipush (x := 32) rfl (by decide) (xnm_no rfl) ?_
    obtain ⟨w3, hw4, h⟩ := xbd_some h
    refine e_cVS (hc := hw4) (rest := []) rfl rfl rfl rfl rfl rfl rfl rfl (xnm_no rfl) ?_
    refine e_aload_n rfl rfl rfl (xnm_no rfl) ?_
    refine e_bipush (x := 114) rfl (by decide) (xnm_no rfl) ?_
    obtain ⟨w5, hw6, h⟩ := xbd_some h
    refine e_cVS (hc := hw6) (rest := []) rfl rfl rfl rfl rfl rfl rfl rfl (xnm_no rfl) ?_
    refine e_aload_n rfl rfl rfl (xnm_no rfl) ?_
    refine e_bipush (x := 97) rfl (by decide) (xnm_no rfl) ?_
    refine e_iload rfl rfl (xnm_no rfl) ?_
    refine e_iadd rfl (xnm_no rfl) ?_
    obtain ⟨w7, hw8, h⟩ := xbd_some h
    refine e_cVS (hc := hw8) (rest := []) rfl rfl rfl rfl rfl rfl rfl rfl (xnm_no rfl) ?_
    refine e_iinc (y := 1) rfl rfl rfl (by decide) (xnm_no rfl) ?_
    refine e_goto (t := 15) rfl rfl rfl ?_
    exact xlfV h
set_option maxRecDepth 4000 in
theorem bL_told_0_62_i (v1 : Int32) (v2 : Int32) (v3 : Int32) (v4 : Int32) (m : xmm) {z : xmm} (h : (if (v2 &&& (3 : Int32)) ≤ v4 then if ((v2 >>> ((9 : Int32) &&& 31)) &&& (1 : Int32)) = 0 then some m else if (v1 - v1 / (3 : Int32) * (3 : Int32)) = 0 then bL_told_0_200 v1 v2 (1 : Int32) m else bL_told_0_200 v1 v2 (3 : Int32) m else if ((v3 >>> (v4 &&& 31)) &&& (1 : Int32)) = 0 then (fL_put_0 (3 : Int32) (2002876672 : Int32) (0 : Int32) (0 : Int32) (0 : Int32) (0 : Int32) m).bind fun (w3 : xmm) => bL_told_0_107 v1 v2 v3 v4 (0 : Int32) w3 else (fL_put_0 (4 : Int32) (1751474544 : Int32) (0 : Int32) (0 : Int32) (0 : Int32) (0 : Int32) m).bind fun (w1 : xmm) => bL_told_0_107 v1 v2 v3 v4 (0 : Int32) w1) = some z) : bL_told_0_62 v1 v2 v3 v4 m = some z := by
  refine xstV ?_
  show xT 166 4 62 [(0, .ref 0), (1, .int v1), (2, .int v2), (3, .int v3), (4, .int v4)] [] m (none, z)
  refine e_iload rfl rfl (xnm_no rfl) ?_
  refine e_iload_n rfl rfl (xnm_no rfl) ?_
  refine e_iconst (x := 3) rfl (by decide) (xnm_no rfl) ?_
  refine e_iand rfl (xnm_no rfl) ?_
  refine e_icmp_ge (t := 179) rfl rfl (xnm_no rfl) (xnm_no rfl) h (fun h => ?_) (fun h => ?_)
  · refine e_iload_n rfl rfl (xnm_no rfl) ?_
    refine e_bipush (x := 9) rfl (by decide) (xnm_no rfl) ?_
    refine e_ishr rfl (xnm_no rfl) ?_
    refine e_iconst (x := 1) rfl (by decide) (xnm_no rfl) ?_
    refine e_iand rfl (xnm_no rfl) ?_
    refine e_if_ne (t := 189) rfl rfl (xnm_no rfl) (xnm_no rfl) h (fun h => ?_) (fun h => ?_)
    · refine e_iload_n rfl rfl (xnm_no rfl) ?_
      refine e_iconst (x := 3) rfl (by decide) (xnm_no rfl) ?_
      refine e_irem rfl (by decide) (xnm_no rfl) ?_
      refine e_if_ne (t := 199) rfl rfl (xnm_no rfl) (xnm_no rfl) h (fun h => ?_) (fun h => ?_)
      · refine e_iconst (x := 3) rfl (by decide) rfl ?_
        exact xlfV h
      · refine e_iconst (x := 1) rfl (by decide) (xnm_no rfl) ?_
        refine e_goto (t := 200) rfl rfl rfl ?_
        exact xlfV h
    · cases h
      exact e_retV rfl rfl
  · refine e_iload_n rfl rfl (xnm_no rfl) ?_
    refine e_iload rfl rfl (xnm_no rfl) ?_
    refine e_ishr rfl (xnm_no rfl) ?_
    refine e_iconst (x := 1) rfl (by decide) (xnm_no rfl) ?_
    refine e_iand rfl (xnm_no rfl) ?_
    refine e_if_ne (t := 93) rfl rfl (xnm_no rfl) (xnm_no rfl) h (fun h => ?_) (fun h => ?_)
    · refine e_aload_n rfl rfl rfl (xnm_no rfl) ?_
      refine e_iconst (x := 4) rfl (by decide) (xnm_no rfl) ?_
      refine e_ldcI (v := 1751474544) rfl rfl (xnm_no rfl) ?_
      refine e_iconst (x := 0) rfl (by decide) (xnm_no rfl) ?_
      refine e_iconst (x := 0) rfl (by decide) (xnm_no rfl) ?_
      refine e_iconst (x := 0) rfl (by decide) (xnm_no rfl) ?_
      refine e_iconst (x := 0) rfl (by decide) (xnm_no rfl) ?_
      obtain ⟨w1, hw2, h⟩ := xbd_some h
      refine e_cVS (hc := hw2) (rest := []) rfl rfl rfl rfl rfl rfl rfl rfl (xnm_no rfl) ?_
      refine e_iconst (x := 0) rfl (by decide) (xnm_no rfl) ?_
      refine e_istore rfl rfl rfl ?_
      exact xlfV h
    · refine e_aload_n rfl rfl rfl (xnm_no rfl) ?_
      refine e_iconst (x := 3) rfl (by decide) (xnm_no rfl) ?_
      refine e_ldcI (v := 2002876672) rfl rfl (xnm_no rfl) ?_
      refine e_iconst (x := 0) rfl (by decide) (xnm_no rfl) ?_
      refine e_iconst (x := 0) rfl (by decide) (xnm_no rfl) ?_
      refine e_iconst (x := 0) rfl (by decide) (xnm_no rfl) ?_
      refine e_iconst (x := 0) rfl (by decide) (xnm_no rfl) ?_
      obtain ⟨w3, hw4, h⟩ := xbd_some h
      refine e_cVS (hc := hw4) (rest := []) rfl rfl rfl rfl rfl rfl rfl rfl (xnm_no rfl) ?_
      refine e_goto (t := 104) rfl rfl (xnm_no rfl) ?_
      refine e_iconst (x := 0) rfl (by decide) (xnm_no rfl) ?_
      refine e_istore rfl rfl rfl ?_
      exact xlfV h
set_option maxRecDepth 4000 in
theorem bL_told_0_200_i (v1 : Int32) (v2 : Int32) (s0 : Int32) (m : xmm) {z : xmm} (h : ((fL_put_0 (5 : Int32) (1668444019 : Int32) (1929379840 : Int32) (0 : Int32) (0 : Int32) (0 : Int32) m).bind fun (w1 : xmm) => bL_told_0_217 v1 v2 s0 (0 : Int32) w1) = some z) : bL_told_0_200 v1 v2 s0 m = some z := by
  refine xstV ?_
  show xT 166 4 200 [(0, .ref 0), (1, .int v1), (2, .int v2)] [.int s0] m (none, z)
  refine e_istore rfl rfl (xnm_no rfl) ?_
  refine e_aload_n rfl rfl rfl (xnm_no rfl) ?_
  refine e_iconst (x := 5) rfl (by decide) (xnm_no rfl) ?_
  refine e_ldcI (v := 1668444019) rfl rfl (xnm_no rfl) ?_
  refine e_ldcI (v := 1929379840) rfl rfl (xnm_no rfl) ?_
  refine e_iconst (x := 0) rfl (by decide) (xnm_no rfl) ?_
  refine e_iconst (x := 0) rfl (by decide) (xnm_no rfl) ?_
  refine e_iconst (x := 0) rfl (by decide) (xnm_no rfl) ?_
  obtain ⟨w1, hw2, h⟩ := xbd_some h
  refine e_cVS (hc := hw2) (rest := []) rfl rfl rfl rfl rfl rfl rfl rfl (xnm_no rfl) ?_
  refine e_iconst (x := 0) rfl (by decide) (xnm_no rfl) ?_
  refine e_istore rfl rfl rfl ?_
  exact xlfV h
set_option maxRecDepth 4000 in
theorem bL_told_0_107_i (v1 : Int32) (v2 : Int32) (v3 : Int32) (v4 : Int32) (v5 : Int32) (m : xmm) {z : xmm} (h : (if ((2 : Int32) + ((v2 >>> (((2 : Int32) + ((2 : Int32) * v4)) &&& 31)) &&& (3 : Int32))) ≤ v5 then (fL_sign_0 (59 : Int32) m).bind fun (w1 : xmm) => bL_told_0_62 v1 v2 v3 (v4 + (1 : Int32)) w1 else (fL_put_0 (2 : Int32) (544342016 : Int32) (0 : Int32) (0 : Int32) (0 : Int32) (0 : Int32) m).bind fun (w3 : xmm) => xlt ((v3 >>> (((((3 : Int32) * v5) + ((2 : Int32) * v4)) + (3 : Int32)) &&& 31)) &&& (255 : Int32)) fun (x5 : Int32) => xgd (!(decide (v1 = 0))) ((fL_sign_0 ((97 : Int32) + (x5 - x5 / v1 * v1)) w3).bind fun (w7 : xmm) => bL_told_0_107 v1 v2 v3 v4 (v5 + (1 : Int32)) w7)) = some z) : bL_told_0_107 v1 v2 v3 v4 v5 m = some z := by
  refine xstV ?_
  show xT 166 4 107 [(0, .ref 0), (1, .int v1), (2, .int v2), (3, .int v3), (4, .int v4), (5, .int v5)] [] m (none, z)
  refine e_iload rfl rfl (xnm_no rfl) ?_
  refine e_iconst (x := 2) rfl (by decide) (xnm_no rfl) ?_
  refine e_iload_n rfl rfl (xnm_no rfl) ?_
  refine e_iconst (x := 2) rfl (by decide) (xnm_no rfl) ?_
  refine e_iconst (x := 2) rfl (by decide) (xnm_no rfl) ?_
  refine e_iload rfl rfl (xnm_no rfl) ?_
  refine e_imul rfl (xnm_no rfl) ?_
  refine e_iadd rfl (xnm_no rfl) ?_
  refine e_ishr rfl (xnm_no rfl) ?_
  refine e_iconst (x := 3) rfl (by decide) (xnm_no rfl) ?_
  refine e_iand rfl (xnm_no rfl) ?_
  refine e_iadd rfl (xnm_no rfl) ?_
  refine e_icmp_ge (t := 167) rfl rfl (xnm_no rfl) (xnm_no rfl) h (fun h => ?_) (fun h => ?_)
  · refine e_aload_n rfl rfl rfl (xnm_no rfl) ?_
    refine e_bipush (x := 59) rfl (by decide) (xnm_no rfl) ?_
    obtain ⟨w1, hw2, h⟩ := xbd_some h
    refine e_cVS (hc := hw2) (rest := []) rfl rfl rfl rfl rfl rfl rfl rfl (xnm_no rfl) ?_
    refine e_iinc (y := 1) rfl rfl rfl (by decide) (xnm_no rfl) ?_
    refine e_goto (t := 62) rfl rfl rfl ?_
    exact xlfV h
  · refine e_aload_n rfl rfl rfl (xnm_no rfl) ?_
    refine e_iconst (x := 2) rfl (by decide) (xnm_no rfl) ?_
    refine e_ldcI (v := 544342016) rfl rfl (xnm_no rfl) ?_
    refine e_iconst (x := 0) rfl (by decide) (xnm_no rfl) ?_
    refine e_iconst (x := 0) rfl (by decide) (xnm_no rfl) ?_
    refine e_iconst (x := 0) rfl (by decide) (xnm_no rfl) ?_
    refine e_iconst (x := 0) rfl (by decide) (xnm_no rfl) ?_
    obtain ⟨w3, hw4, h⟩ := xbd_some h
    refine e_cVS (hc := hw4) (rest := []) rfl rfl rfl rfl rfl rfl rfl rfl (xnm_no rfl) ?_
    refine e_aload_n rfl rfl rfl (xnm_no rfl) ?_
    refine e_bipush (x := 97) rfl (by decide) (xnm_no rfl) ?_
    refine e_iload_n rfl rfl (xnm_no rfl) ?_
    refine e_iconst (x := 3) rfl (by decide) (xnm_no rfl) ?_
    refine e_iload rfl rfl (xnm_no rfl) ?_
    refine e_imul rfl (xnm_no rfl) ?_
    refine e_iconst (x := 2) rfl (by decide) (xnm_no rfl) ?_
    refine e_iload rfl rfl (xnm_no rfl) ?_
    refine e_imul rfl (xnm_no rfl) ?_
    refine e_iadd rfl (xnm_no rfl) ?_
    refine e_iconst (x := 3) rfl (by decide) (xnm_no rfl) ?_
    refine e_iadd rfl (xnm_no rfl) ?_
    refine e_ishr rfl (xnm_no rfl) ?_
    refine e_sipush (x := 255) rfl (by decide) (xnm_no rfl) ?_
    refine e_iand rfl (xnm_no rfl) ?_
    refine e_iload_n rfl rfl (xnm_no rfl) ?_
    replace h := xlt_b h
    obtain ⟨g6, h⟩ := xgd_some h
    refine e_irem rfl (xnz g6) (xnm_no rfl) ?_
    refine e_iadd rfl (xnm_no rfl) ?_
    obtain ⟨w7, hw8, h⟩ := xbd_some h
    refine e_cVS (hc := hw8) (rest := []) rfl rfl rfl rfl rfl rfl rfl rfl (xnm_no rfl) ?_
    refine e_iinc (y := 1) rfl rfl rfl (by decide) (xnm_no rfl) ?_
    refine e_goto (t := 107) rfl rfl rfl ?_
    exact xlfV h
set_option maxRecDepth 4000 in
theorem bL_told_0_217_i (v1 : Int32) (v2 : Int32) (v4 : Int32) (v5 : Int32) (m : xmm) {z : xmm} (h : (if v1 ≤ v5 then (fL_sign_0 (59 : Int32) m).bind fun (w1 : xmm) => some w1 else (fL_sign_0 (32 : Int32) m).bind fun (w3 : xmm) => xlt ((v5 * v4) + ((v2 >>> ((10 : Int32) &&& 31)) &&& (7 : Int32))) fun (x5 : Int32) => xgd (!(decide (v1 = 0))) ((fL_number_0 (x5 - x5 / v1 * v1) w3).bind fun (w7 : xmm) => bL_told_0_217 v1 v2 v4 (v5 + (1 : Int32)) w7)) = some z) : bL_told_0_217 v1 v2 v4 v5 m = some z := by
  refine xstV ?_
  show xT 166 4 217 [(0, .ref 0), (1, .int v1), (2, .int v2), (4, .int v4), (5, .int v5)] [] m (none, z)
  refine e_iload rfl rfl (xnm_no rfl) ?_
  refine e_iload_n rfl rfl (xnm_no rfl) ?_
  refine e_icmp_ge (t := 254) rfl rfl (xnm_no rfl) (xnm_no rfl) h (fun h => ?_) (fun h => ?_)
  · refine e_aload_n rfl rfl rfl (xnm_no rfl) ?_
    refine e_bipush (x := 59) rfl (by decide) (xnm_no rfl) ?_
    obtain ⟨w1, hw2, h⟩ := xbd_some h
    refine e_cVS (hc := hw2) (rest := []) rfl rfl rfl rfl rfl rfl rfl rfl (xnm_no rfl) ?_
    cases h
    exact e_retV rfl rfl
  · refine e_aload_n rfl rfl rfl (xnm_no rfl) ?_
    refine e_bipush (x := 32) rfl (by decide) (xnm_no rfl) ?_
    obtain ⟨w3, hw4, h⟩ := xbd_some h
    refine e_cVS (hc := hw4) (rest := []) rfl rfl rfl rfl rfl rfl rfl rfl (xnm_no rfl) ?_
    refine e_aload_n rfl rfl rfl (xnm_no rfl) ?_
    refine e_iload rfl rfl (xnm_no rfl) ?_
    refine e_iload rfl rfl (xnm_no rfl) ?_
    refine e_imul rfl (xnm_no rfl) ?_
    refine e_iload_n rfl rfl (xnm_no rfl) ?_
    refine e_bipush (x := 10) rfl (by decide) (xnm_no rfl) ?_
    refine e_ishr rfl (xnm_no rfl) ?_
    refine e_bipush (x := 7) rfl (by decide) (xnm_no rfl) ?_
    refine e_iand rfl (xnm_no rfl) ?_
    refine e_iadd rfl (xnm_no rfl) ?_
    refine e_iload_n rfl rfl (xnm_no rfl) ?_
    replace h := xlt_b h
    obtain ⟨g6, h⟩ := xgd_some h
    refine e_irem rfl (xnz g6) (xnm_no rfl) ?_
    obtain ⟨w7, hw8, h⟩ := xbd_some h
    refine e_cVS (hc := hw8) (rest := []) rfl rfl rfl rfl rfl rfl rfl rfl (xnm_no rfl) ?_
    refine e_iinc (y := 1) rfl rfl rfl (by decide) (xnm_no rfl) ?_
    refine e_goto (t := 217) rfl rfl rfl ?_
    exact xlfV h
set_option maxRecDepth 4000 in
theorem fX7_signAt_1_i (v1 : Int32) (m : xmm) {z : Int32 × xmm} (h : (if v1 < 0 then some ((0 : Int32), m) else if (m.1 1 1) ≤ v1 then some ((0 : Int32), m) else if (2000 : Int32) ≤ v1 then some ((0 : Int32), m) else xgd (xinb 2000 v1) (some (((m.1 2 (v1).toNatClampNeg) &&& (255 : Int32)), m))) = some z) : fX7_signAt_1 v1 m = some z := by
  refine xstI ?_
  show xT 81 0 0 [(0, .ref 1), (1, .int v1)] [] m (some (.int z.1), z.2)
  refine e_iload_n rfl rfl (xnm_no rfl) ?_
  refine e_if_lt (t := 32) rfl rfl (xnm_no rfl) (xnm_no rfl) h (fun h => ?_) (fun h => ?_)
  · refine e_iconst (x := 0) rfl (by decide) (xnm_no rfl) ?_
    cases h
    exact e_retI rfl rfl
  · refine e_iload_n rfl rfl (xnm_no rfl) ?_
    refine e_aload_n rfl rfl rfl (xnm_no rfl) ?_
    refine e_getI rfl rfl rfl rfl (xnm_no rfl) ?_
    refine e_icmp_ge (t := 32) rfl rfl (xnm_no rfl) (xnm_no rfl) h (fun h => ?_) (fun h => ?_)
    · refine e_iconst (x := 0) rfl (by decide) (xnm_no rfl) ?_
      cases h
      exact e_retI rfl rfl
    · refine e_iload_n rfl rfl (xnm_no rfl) ?_
      refine e_sipush (x := 2000) rfl (by decide) (xnm_no rfl) ?_
      refine e_icmp_ge (t := 32) rfl rfl (xnm_no rfl) (xnm_no rfl) h (fun h => ?_) (fun h => ?_)
      · refine e_iconst (x := 0) rfl (by decide) (xnm_no rfl) ?_
        cases h
        exact e_retI rfl rfl
      · refine e_aload_n rfl rfl rfl (xnm_no rfl) ?_
        refine e_getR (r := 2) rfl rfl rfl rfl rfl (xnm_no rfl) ?_
        refine e_iload_n rfl rfl (xnm_no rfl) ?_
        obtain ⟨g1, h⟩ := xgd_some h
        refine e_bald rfl (xor1 g1) (xnm_no rfl) ?_
        refine e_sipush (x := 255) rfl (by decide) (xnm_no rfl) ?_
        refine e_iand rfl (xnm_no rfl) ?_
        refine e_goto (t := 33) rfl rfl (xnm_no rfl) ?_
        cases h
        exact e_retI rfl rfl
set_option maxRecDepth 4000 in
theorem fX7_isBlankAt_1_i (v1 : Int32) (m : xmm) {z : Int32 × xmm} (h : ((fX7_signAt_1 v1 m).bind fun (w1 : Int32 × xmm) => if w1.1 = (9 : Int32) then some ((1 : Int32), w1.2) else if w1.1 = (10 : Int32) then some ((1 : Int32), w1.2) else if w1.1 = (13 : Int32) then some ((1 : Int32), w1.2) else if w1.1 = (32 : Int32) then some ((1 : Int32), w1.2) else some ((0 : Int32), w1.2)) = some z) : fX7_isBlankAt_1 v1 m = some z := by
  refine xstI ?_
  show xT 82 1 0 [(0, .ref 1), (1, .int v1)] [] m (some (.int z.1), z.2)
  refine e_aload_n rfl rfl rfl (xnm_no rfl) ?_
  refine e_iload_n rfl rfl (xnm_no rfl) ?_
  obtain ⟨w1, hw2, h⟩ := xbd_some h
  refine e_cIV (hc := hw2) (rest := []) rfl rfl rfl rfl rfl rfl rfl rfl (xnm_no rfl) ?_
  refine e_istore_n rfl rfl (xnm_no rfl) ?_
  refine e_iload_n rfl rfl (xnm_no rfl) ?_
  refine e_bipush (x := 9) rfl (by decide) (xnm_no rfl) ?_
  refine e_icmp_eq (t := 30) rfl rfl (xnm_no rfl) (xnm_no rfl) h (fun h => ?_) (fun h => ?_)
  · refine e_iconst (x := 1) rfl (by decide) (xnm_no rfl) ?_
    refine e_goto (t := 35) rfl rfl (xnm_no rfl) ?_
    cases h
    exact e_retI rfl (by decide)
  · refine e_iload_n rfl rfl (xnm_no rfl) ?_
    refine e_bipush (x := 10) rfl (by decide) (xnm_no rfl) ?_
    refine e_icmp_eq (t := 30) rfl rfl (xnm_no rfl) (xnm_no rfl) h (fun h => ?_) (fun h => ?_)
    · refine e_iconst (x := 1) rfl (by decide) (xnm_no rfl) ?_
      refine e_goto (t := 35) rfl rfl (xnm_no rfl) ?_
      cases h
      exact e_retI rfl (by decide)
    · refine e_iload_n rfl rfl (xnm_no rfl) ?_
      refine e_bipush (x := 13) rfl (by decide) (xnm_no rfl) ?_
      refine e_icmp_eq (t := 30) rfl rfl (xnm_no rfl) (xnm_no rfl) h (fun h => ?_) (fun h => ?_)
      · refine e_iconst (x := 1) rfl (by decide) (xnm_no rfl) ?_
        refine e_goto (t := 35) rfl rfl (xnm_no rfl) ?_
        cases h
        exact e_retI rfl (by decide)
      · refine e_iload_n rfl rfl (xnm_no rfl) ?_
        refine e_bipush (x := 32) rfl (by decide) (xnm_no rfl) ?_
        refine e_icmp_ne (t := 34) rfl rfl (xnm_no rfl) (xnm_no rfl) h (fun h => ?_) (fun h => ?_)
        · refine e_iconst (x := 0) rfl (by decide) (xnm_no rfl) ?_
          cases h
          exact e_retI rfl (by decide)
        · refine e_iconst (x := 1) rfl (by decide) (xnm_no rfl) ?_
          refine e_goto (t := 35) rfl rfl (xnm_no rfl) ?_
          cases h
          exact e_retI rfl (by decide)
set_option maxRecDepth 4000 in
theorem fX7_skipBlanks_1_i (m : xmm) {z : xmm} (h : (bX7_skipBlanks_1_2 (0 : Int32) m) = some z) : fX7_skipBlanks_1 m = some z := by
  refine xstV ?_
  show xT 77 2 0 [(0, .ref 1)] [] m (none, z)
  refine e_iconst (x := 0) rfl (by decide) (xnm_no rfl) ?_
  refine e_istore_n rfl rfl rfl ?_
  exact xlfV h
set_option maxRecDepth 4000 in
theorem bX7_skipBlanks_1_2_i (v1 : Int32) (m : xmm) {z : xmm} (h : (if (2000 : Int32) ≤ v1 then some m else (fX7_isBlankAt_1 (m.1 1 9) m).bind fun (w1 : Int32 × xmm) => if w1.1 = 0 then some w1.2 else xlt (xwi w1.2 1 9 ((w1.2.1 1 9) + (1 : Int32))) fun (m3 : xmm) => bX7_skipBlanks_1_2 (v1 + (1 : Int32)) m3) = some z) : bX7_skipBlanks_1_2 v1 m = some z := by
  refine xstV ?_
  show xT 77 2 2 [(0, .ref 1), (1, .int v1)] [] m (none, z)
  refine e_iload_n rfl rfl (xnm_no rfl) ?_
  refine e_sipush (x := 2000) rfl (by decide) (xnm_no rfl) ?_
  refine e_icmp_ge (t := 36) rfl rfl (xnm_no rfl) (xnm_no rfl) h (fun h => ?_) (fun h => ?_)
  · cases h
    exact e_retV rfl rfl
  · refine e_aload_n rfl rfl rfl (xnm_no rfl) ?_
    refine e_aload_n rfl rfl rfl (xnm_no rfl) ?_
    refine e_getI rfl rfl rfl rfl (xnm_no rfl) ?_
    obtain ⟨w1, hw2, h⟩ := xbd_some h
    refine e_cIV (hc := hw2) (rest := []) rfl rfl rfl rfl rfl rfl rfl rfl (xnm_no rfl) ?_
    refine e_if_eq (t := 36) rfl rfl (xnm_no rfl) (xnm_no rfl) h (fun h => ?_) (fun h => ?_)
    · cases h
      exact e_retV rfl rfl
    · refine e_aload_n rfl rfl rfl (xnm_no rfl) ?_
      refine e_dup rfl rfl (xnm_no rfl) ?_
      refine e_getI rfl rfl rfl rfl (xnm_no rfl) ?_
      refine e_iconst (x := 1) rfl (by decide) (xnm_no rfl) ?_
      refine e_iadd rfl (xnm_no rfl) ?_
      refine e_putI rfl rfl rfl rfl (xnm_no rfl) ?_
      replace h := xlt_b h
      refine e_iinc (y := 1) rfl rfl rfl (by decide) (xnm_no rfl) ?_
      refine e_goto (t := 2) rfl rfl rfl ?_
      exact xlfV h
set_option maxRecDepth 4000 in
theorem fX7_isLetterAt_1_i (v1 : Int32) (m : xmm) {z : Int32 × xmm} (h : ((fX7_signAt_1 v1 m).bind fun (w1 : Int32 × xmm) => if w1.1 < (97 : Int32) then some ((0 : Int32), w1.2) else (fX7_signAt_1 v1 w1.2).bind fun (w3 : Int32 × xmm) => if (122 : Int32) < w3.1 then some ((0 : Int32), w3.2) else some ((1 : Int32), w3.2)) = some z) : fX7_isLetterAt_1 v1 m = some z := by
  refine xstI ?_
  show xT 83 1 0 [(0, .ref 1), (1, .int v1)] [] m (some (.int z.1), z.2)
  refine e_aload_n rfl rfl rfl (xnm_no rfl) ?_
  refine e_iload_n rfl rfl (xnm_no rfl) ?_
  obtain ⟨w1, hw2, h⟩ := xbd_some h
  refine e_cIV (hc := hw2) (rest := []) rfl rfl rfl rfl rfl rfl rfl rfl (xnm_no rfl) ?_
  refine e_bipush (x := 97) rfl (by decide) (xnm_no rfl) ?_
  refine e_icmp_lt (t := 24) rfl rfl (xnm_no rfl) (xnm_no rfl) h (fun h => ?_) (fun h => ?_)
  · refine e_iconst (x := 0) rfl (by decide) (xnm_no rfl) ?_
    cases h
    exact e_retI rfl (by decide)
  · refine e_aload_n rfl rfl rfl (xnm_no rfl) ?_
    refine e_iload_n rfl rfl (xnm_no rfl) ?_
    obtain ⟨w3, hw4, h⟩ := xbd_some h
    refine e_cIV (hc := hw4) (rest := []) rfl rfl rfl rfl rfl rfl rfl rfl (xnm_no rfl) ?_
    refine e_bipush (x := 122) rfl (by decide) (xnm_no rfl) ?_
    refine e_icmp_gt (t := 24) rfl rfl (xnm_no rfl) (xnm_no rfl) h (fun h => ?_) (fun h => ?_)
    · refine e_iconst (x := 0) rfl (by decide) (xnm_no rfl) ?_
      cases h
      exact e_retI rfl (by decide)
    · refine e_iconst (x := 1) rfl (by decide) (xnm_no rfl) ?_
      refine e_goto (t := 25) rfl rfl (xnm_no rfl) ?_
      cases h
      exact e_retI rfl (by decide)
set_option maxRecDepth 4000 in
theorem fX7_isDigitAt_1_i (v1 : Int32) (m : xmm) {z : Int32 × xmm} (h : ((fX7_signAt_1 v1 m).bind fun (w1 : Int32 × xmm) => if w1.1 < (48 : Int32) then some ((0 : Int32), w1.2) else (fX7_signAt_1 v1 w1.2).bind fun (w3 : Int32 × xmm) => if (57 : Int32) < w3.1 then some ((0 : Int32), w3.2) else some ((1 : Int32), w3.2)) = some z) : fX7_isDigitAt_1 v1 m = some z := by
  refine xstI ?_
  show xT 84 1 0 [(0, .ref 1), (1, .int v1)] [] m (some (.int z.1), z.2)
  refine e_aload_n rfl rfl rfl (xnm_no rfl) ?_
  refine e_iload_n rfl rfl (xnm_no rfl) ?_
  obtain ⟨w1, hw2, h⟩ := xbd_some h
  refine e_cIV (hc := hw2) (rest := []) rfl rfl rfl rfl rfl rfl rfl rfl (xnm_no rfl) ?_
  refine e_bipush (x := 48) rfl (by decide) (xnm_no rfl) ?_
  refine e_icmp_lt (t := 24) rfl rfl (xnm_no rfl) (xnm_no rfl) h (fun h => ?_) (fun h => ?_)
  · refine e_iconst (x := 0) rfl (by decide) (xnm_no rfl) ?_
    cases h
    exact e_retI rfl (by decide)
  · refine e_aload_n rfl rfl rfl (xnm_no rfl) ?_
    refine e_iload_n rfl rfl (xnm_no rfl) ?_
    obtain ⟨w3, hw4, h⟩ := xbd_some h
    refine e_cIV (hc := hw4) (rest := []) rfl rfl rfl rfl rfl rfl rfl rfl (xnm_no rfl) ?_
    refine e_bipush (x := 57) rfl (by decide) (xnm_no rfl) ?_
    refine e_icmp_gt (t := 24) rfl rfl (xnm_no rfl) (xnm_no rfl) h (fun h => ?_) (fun h => ?_)
    · refine e_iconst (x := 0) rfl (by decide) (xnm_no rfl) ?_
      cases h
      exact e_retI rfl (by decide)
    · refine e_iconst (x := 1) rfl (by decide) (xnm_no rfl) ?_
      refine e_goto (t := 25) rfl rfl (xnm_no rfl) ?_
      cases h
      exact e_retI rfl (by decide)
set_option maxRecDepth 4000 in
theorem fJ0_coder_1000_i (m : xmm) {z : Int32 × xmm} (h : (if (1 : Int32) = 0 then some ((1 : Int32), m) else some ((0 : Int32), m)) = some z) : fJ0_coder_1000 m = some z := by
  refine xstI ?_
  show xT 158 0 0 [(0, .ref 1000)] [] m (some (.int z.1), z.2)
  refine e_statI rfl rfl (xnm_no rfl) ?_
  refine e_if_eq (t := 13) rfl rfl (xnm_no rfl) (xnm_no rfl) h (fun h => ?_) (fun h => ?_)
  · refine e_iconst (x := 1) rfl (by decide) (xnm_no rfl) ?_
    cases h
    exact e_retI rfl (by decide)
  · refine e_aload_n rfl rfl rfl (xnm_no rfl) ?_
    refine e_getSC rfl rfl (by decide) (xnm_no rfl) ?_
    refine e_goto (t := 14) rfl rfl (xnm_no rfl) ?_
    cases h
    exact e_retI rfl (by decide)
set_option maxRecDepth 4000 in
theorem fJ0_length_1000_i (m : xmm) {z : Int32 × xmm} (h : ((fJ0_coder_1000 m).bind fun (w1 : Int32 × xmm) => some (((5 : Int32) >>> (w1.1 &&& 31)), w1.2)) = some z) : fJ0_length_1000 m = some z := by
  refine xstI ?_
  show xT 156 1 0 [(0, .ref 1000)] [] m (some (.int z.1), z.2)
  refine e_aload_n rfl rfl rfl (xnm_no rfl) ?_
  refine e_getSV rfl rfl (by decide) (xnm_no rfl) ?_
  refine e_alen (v := 5) rfl rfl (xnm_no rfl) ?_
  refine e_aload_n rfl rfl rfl (xnm_no rfl) ?_
  obtain ⟨w1, hw2, h⟩ := xbd_some h
  refine e_cIV (hc := hw2) (rest := [.int _]) rfl rfl rfl rfl rfl rfl rfl rfl (xnm_no rfl) ?_
  refine e_ishr rfl (xnm_no rfl) ?_
  cases h
  exact e_retI rfl rfl
set_option maxRecDepth 4000 in
theorem fJ0_isLatin1_1000_i (m : xmm) {z : Int32 × xmm} (h : (if (1 : Int32) = 0 then some ((0 : Int32), m) else if (0 : Int32) = 0 then some ((1 : Int32), m) else some ((0 : Int32), m)) = some z) : fJ0_isLatin1_1000 m = some z := by
  refine xstI ?_
  show xT 159 0 0 [(0, .ref 1000)] [] m (some (.int z.1), z.2)
  refine e_statI rfl rfl (xnm_no rfl) ?_
  refine e_if_eq (t := 17) rfl rfl (xnm_no rfl) (xnm_no rfl) h (fun h => ?_) (fun h => ?_)
  · refine e_iconst (x := 0) rfl (by decide) (xnm_no rfl) ?_
    cases h
    exact e_retI rfl (by decide)
  · refine e_aload_n rfl rfl rfl (xnm_no rfl) ?_
    refine e_getSC rfl rfl (by decide) (xnm_no rfl) ?_
    refine e_if_ne (t := 17) rfl rfl (xnm_no rfl) (xnm_no rfl) h (fun h => ?_) (fun h => ?_)
    · refine e_iconst (x := 0) rfl (by decide) (xnm_no rfl) ?_
      cases h
      exact e_retI rfl (by decide)
    · refine e_iconst (x := 1) rfl (by decide) (xnm_no rfl) ?_
      refine e_goto (t := 18) rfl rfl (xnm_no rfl) ?_
      cases h
      exact e_retI rfl (by decide)
set_option maxRecDepth 4000 in
theorem fJ3_checkIndex_1999_i (v0 : Int32) (v1 : Int32) (m : xmm) {z : Int32 × xmm} (h : (if v0 < 0 then none else if v0 < v1 then some (v0, m) else none) = some z) : fJ3_checkIndex_1999 v0 v1 m = some z := by
  refine xstI ?_
  show xT 162 0 0 [(0, .int v0), (1, .int v1), (2, .ref 1999)] [] m (some (.int z.1), z.2)
  refine e_iload_n rfl rfl (xnm_no rfl) ?_
  refine e_if_lt (t := 9) rfl rfl (xnm_no rfl) (xnm_no rfl) h (fun h => ?_) (fun h => ?_)
  · cases h
  · refine e_iload_n rfl rfl (xnm_no rfl) ?_
    refine e_iload_n rfl rfl (xnm_no rfl) ?_
    refine e_icmp_lt (t := 16) rfl rfl (xnm_no rfl) (xnm_no rfl) h (fun h => ?_) (fun h => ?_)
    · refine e_iload_n rfl rfl (xnm_no rfl) ?_
      cases h
      exact e_retI rfl rfl
    · cases h
set_option maxRecDepth 4000 in
theorem fJ0_checkIndex_i (v0 : Int32) (v1 : Int32) (m : xmm) {z : xmm} (h : ((fJ3_checkIndex_1999 v0 v1 m).bind fun (w1 : Int32 × xmm) => some w1.2) = some z) : fJ0_checkIndex v0 v1 m = some z := by
  refine xstV ?_
  show xT 160 1 0 [(0, .int v0), (1, .int v1)] [] m (none, z)
  refine e_iload_n rfl rfl (xnm_no rfl) ?_
  refine e_iload_n rfl rfl (xnm_no rfl) ?_
  refine e_statR rfl rfl (xnm_no rfl) ?_
  obtain ⟨w1, hw2, h⟩ := xbd_some h
  refine e_cIS (hc := hw2) (rest := []) rfl rfl rfl rfl rfl rfl rfl rfl (xnm_no rfl) ?_
  refine e_pop rfl rfl (xnm_no rfl) ?_
  cases h
  exact e_retV rfl rfl
set_option maxRecDepth 4000 in
theorem fJ1_charAt_1010_i (v1 : Int32) (m : xmm) {z : Int32 × xmm} (h : ((fJ0_checkIndex v1 (5 : Int32) m).bind fun (w1 : xmm) => xgd (decide (0 ≤ v1)) (((xstr 0)[(v1).toNatClampNeg]?).bind fun x4 => xgd (xretok (xrt 161) (((Int32.toUInt32 (x4 &&& (255 : Int32))) % 65536).toInt32)) (some ((((Int32.toUInt32 (x4 &&& (255 : Int32))) % 65536).toInt32), w1)))) = some z) : fJ1_charAt_1010 v1 m = some z := by
  refine xstI ?_
  show xT 161 2 0 [(0, .ref 1010), (1, .int v1)] [] m (some (.int z.1), z.2)
  refine e_iload_n rfl rfl (xnm_no rfl) ?_
  refine e_aload_n rfl rfl rfl (xnm_no rfl) ?_
  refine e_alen (v := 5) rfl rfl (xnm_no rfl) ?_
  obtain ⟨w1, hw2, h⟩ := xbd_some h
  refine e_cVS (hc := hw2) (rest := []) rfl rfl rfl rfl rfl rfl rfl rfl (xnm_no rfl) ?_
  refine e_aload_n rfl rfl rfl (xnm_no rfl) ?_
  refine e_iload_n rfl rfl (xnm_no rfl) ?_
  obtain ⟨g3, h⟩ := xgd_some h
  obtain ⟨x4, g5, h⟩ := xbd_some h
  refine e_sbld rfl (by decide) (of_decide_eq_true g3) g5 (xnm_no rfl) ?_
  refine e_sipush (x := 255) rfl (by decide) (xnm_no rfl) ?_
  refine e_iand rfl (xnm_no rfl) ?_
  refine e_i2c rfl (xnm_no rfl) ?_
  obtain ⟨g6, h⟩ := xgd_some h
  cases h
  exact e_retI rfl g6
set_option maxRecDepth 4000 in
theorem fJ0_charAt_1000_i (v1 : Int32) (m : xmm) {z : Int32 × xmm} (h : ((fJ0_isLatin1_1000 m).bind fun (w1 : Int32 × xmm) => if w1.1 = 0 then none else (fJ1_charAt_1010 v1 w1.2).bind fun (w3 : Int32 × xmm) => xgd (xretok (xrt 157) w3.1) (some (w3.1, w3.2))) = some z) : fJ0_charAt_1000 v1 m = some z := by
  refine xstI ?_
  show xT 157 3 0 [(0, .ref 1000), (1, .int v1)] [] m (some (.int z.1), z.2)
  refine e_aload_n rfl rfl rfl (xnm_no rfl) ?_
  obtain ⟨w1, hw2, h⟩ := xbd_some h
  refine e_cIV (hc := hw2) (rest := []) rfl rfl rfl rfl rfl rfl rfl rfl (xnm_no rfl) ?_
  refine e_if_eq (t := 16) rfl rfl (xnm_no rfl) (xnm_no rfl) h (fun h => ?_) (fun h => ?_)
  · refine e_aload_n rfl rfl rfl (xnm_no rfl) ?_
    refine e_getSV rfl rfl (by decide) (xnm_no rfl) ?_
    refine e_iload_n rfl rfl (xnm_no rfl) ?_
    cases h
  · refine e_aload_n rfl rfl rfl (xnm_no rfl) ?_
    refine e_getSV rfl rfl (by decide) (xnm_no rfl) ?_
    refine e_iload_n rfl rfl (xnm_no rfl) ?_
    obtain ⟨w3, hw4, h⟩ := xbd_some h
    refine e_cIS (hc := hw4) (rest := []) rfl rfl rfl rfl rfl rfl rfl rfl (xnm_no rfl) ?_
    obtain ⟨g5, h⟩ := xgd_some h
    cases h
    exact e_retI rfl g5
set_option maxRecDepth 4000 in
theorem fX7_isWord_1_1000_i (v1 : Int32) (v2 : Int32) (m : xmm) {z : Int32 × xmm} (h : ((fJ0_length_1000 m).bind fun (w1 : Int32 × xmm) => if (v2 - v1) = w1.1 then bX7_isWord_1_1000_15 v1 (0 : Int32) w1.2 else some ((0 : Int32), w1.2)) = some z) : fX7_isWord_1_1000 v1 v2 m = some z := by
  refine xstI ?_
  show xT 80 4 0 [(0, .ref 1), (1, .int v1), (2, .int v2), (3, .ref 1000)] [] m (some (.int z.1), z.2)
  refine e_iload_n rfl rfl (xnm_no rfl) ?_
  refine e_iload_n rfl rfl (xnm_no rfl) ?_
  refine e_isub rfl (xnm_no rfl) ?_
  refine e_aload_n rfl rfl rfl (xnm_no rfl) ?_
  obtain ⟨w1, hw2, h⟩ := xbd_some h
  refine e_cIV (hc := hw2) (rest := [.int _]) rfl rfl rfl rfl rfl rfl rfl rfl (xnm_no rfl) ?_
  refine e_icmp_eq (t := 12) rfl rfl (xnm_no rfl) (xnm_no rfl) h (fun h => ?_) (fun h => ?_)
  · refine e_iconst (x := 0) rfl (by decide) (xnm_no rfl) ?_
    refine e_istore rfl rfl rfl ?_
    exact xlfI h
  · refine e_iconst (x := 0) rfl (by decide) (xnm_no rfl) ?_
    cases h
    exact e_retI rfl (by decide)
set_option maxRecDepth 4000 in
theorem bX7_isWord_1_1000_15_i (v1 : Int32) (v4 : Int32) (m : xmm) {z : Int32 × xmm} (h : ((fJ0_length_1000 m).bind fun (w1 : Int32 × xmm) => if w1.1 ≤ v4 then some ((1 : Int32), w1.2) else (fX7_signAt_1 (v1 + v4) w1.2).bind fun (w3 : Int32 × xmm) => (fJ0_charAt_1000 v4 w3.2).bind fun (w5 : Int32 × xmm) => if w3.1 = w5.1 then bX7_isWord_1_1000_15 v1 (v4 + (1 : Int32)) w5.2 else some ((0 : Int32), w5.2)) = some z) : bX7_isWord_1_1000_15 v1 v4 m = some z := by
  refine xstI ?_
  show xT 80 4 15 [(0, .ref 1), (1, .int v1), (3, .ref 1000), (4, .int v4)] [] m (some (.int z.1), z.2)
  refine e_iload rfl rfl (xnm_no rfl) ?_
  refine e_aload_n rfl rfl rfl (xnm_no rfl) ?_
  obtain ⟨w1, hw2, h⟩ := xbd_some h
  refine e_cIV (hc := hw2) (rest := [.int _]) rfl rfl rfl rfl rfl rfl rfl rfl (xnm_no rfl) ?_
  refine e_icmp_ge (t := 49) rfl rfl (xnm_no rfl) (xnm_no rfl) h (fun h => ?_) (fun h => ?_)
  · refine e_iconst (x := 1) rfl (by decide) (xnm_no rfl) ?_
    cases h
    exact e_retI rfl (by decide)
  · refine e_aload_n rfl rfl rfl (xnm_no rfl) ?_
    refine e_iload_n rfl rfl (xnm_no rfl) ?_
    refine e_iload rfl rfl (xnm_no rfl) ?_
    refine e_iadd rfl (xnm_no rfl) ?_
    obtain ⟨w3, hw4, h⟩ := xbd_some h
    refine e_cIV (hc := hw4) (rest := []) rfl rfl rfl rfl rfl rfl rfl rfl (xnm_no rfl) ?_
    refine e_aload_n rfl rfl rfl (xnm_no rfl) ?_
    refine e_iload rfl rfl (xnm_no rfl) ?_
    obtain ⟨w5, hw6, h⟩ := xbd_some h
    refine e_cIV (hc := hw6) (rest := [.int _]) rfl rfl rfl rfl rfl rfl rfl rfl (xnm_no rfl) ?_
    refine e_icmp_eq (t := 43) rfl rfl (xnm_no rfl) (xnm_no rfl) h (fun h => ?_) (fun h => ?_)
    · refine e_iinc (y := 1) rfl rfl rfl (by decide) (xnm_no rfl) ?_
      refine e_goto (t := 15) rfl rfl rfl ?_
      exact xlfI h
    · refine e_iconst (x := 0) rfl (by decide) (xnm_no rfl) ?_
      cases h
      exact e_retI rfl (by decide)
set_option maxRecDepth 4000 in
theorem fJ0_coder_1001_i (m : xmm) {z : Int32 × xmm} (h : (if (1 : Int32) = 0 then some ((1 : Int32), m) else some ((0 : Int32), m)) = some z) : fJ0_coder_1001 m = some z := by
  refine xstI ?_
  show xT 158 0 0 [(0, .ref 1001)] [] m (some (.int z.1), z.2)
  refine e_statI rfl rfl (xnm_no rfl) ?_
  refine e_if_eq (t := 13) rfl rfl (xnm_no rfl) (xnm_no rfl) h (fun h => ?_) (fun h => ?_)
  · refine e_iconst (x := 1) rfl (by decide) (xnm_no rfl) ?_
    cases h
    exact e_retI rfl (by decide)
  · refine e_aload_n rfl rfl rfl (xnm_no rfl) ?_
    refine e_getSC rfl rfl (by decide) (xnm_no rfl) ?_
    refine e_goto (t := 14) rfl rfl (xnm_no rfl) ?_
    cases h
    exact e_retI rfl (by decide)
set_option maxRecDepth 4000 in
theorem fJ0_length_1001_i (m : xmm) {z : Int32 × xmm} (h : ((fJ0_coder_1001 m).bind fun (w1 : Int32 × xmm) => some (((3 : Int32) >>> (w1.1 &&& 31)), w1.2)) = some z) : fJ0_length_1001 m = some z := by
  refine xstI ?_
  show xT 156 1 0 [(0, .ref 1001)] [] m (some (.int z.1), z.2)
  refine e_aload_n rfl rfl rfl (xnm_no rfl) ?_
  refine e_getSV rfl rfl (by decide) (xnm_no rfl) ?_
  refine e_alen (v := 3) rfl rfl (xnm_no rfl) ?_
  refine e_aload_n rfl rfl rfl (xnm_no rfl) ?_
  obtain ⟨w1, hw2, h⟩ := xbd_some h
  refine e_cIV (hc := hw2) (rest := [.int _]) rfl rfl rfl rfl rfl rfl rfl rfl (xnm_no rfl) ?_
  refine e_ishr rfl (xnm_no rfl) ?_
  cases h
  exact e_retI rfl rfl
set_option maxRecDepth 4000 in
theorem fJ0_isLatin1_1001_i (m : xmm) {z : Int32 × xmm} (h : (if (1 : Int32) = 0 then some ((0 : Int32), m) else if (0 : Int32) = 0 then some ((1 : Int32), m) else some ((0 : Int32), m)) = some z) : fJ0_isLatin1_1001 m = some z := by
  refine xstI ?_
  show xT 159 0 0 [(0, .ref 1001)] [] m (some (.int z.1), z.2)
  refine e_statI rfl rfl (xnm_no rfl) ?_
  refine e_if_eq (t := 17) rfl rfl (xnm_no rfl) (xnm_no rfl) h (fun h => ?_) (fun h => ?_)
  · refine e_iconst (x := 0) rfl (by decide) (xnm_no rfl) ?_
    cases h
    exact e_retI rfl (by decide)
  · refine e_aload_n rfl rfl rfl (xnm_no rfl) ?_
    refine e_getSC rfl rfl (by decide) (xnm_no rfl) ?_
    refine e_if_ne (t := 17) rfl rfl (xnm_no rfl) (xnm_no rfl) h (fun h => ?_) (fun h => ?_)
    · refine e_iconst (x := 0) rfl (by decide) (xnm_no rfl) ?_
      cases h
      exact e_retI rfl (by decide)
    · refine e_iconst (x := 1) rfl (by decide) (xnm_no rfl) ?_
      refine e_goto (t := 18) rfl rfl (xnm_no rfl) ?_
      cases h
      exact e_retI rfl (by decide)
set_option maxRecDepth 4000 in
theorem fJ1_charAt_1011_i (v1 : Int32) (m : xmm) {z : Int32 × xmm} (h : ((fJ0_checkIndex v1 (3 : Int32) m).bind fun (w1 : xmm) => xgd (decide (0 ≤ v1)) (((xstr 1)[(v1).toNatClampNeg]?).bind fun x4 => xgd (xretok (xrt 161) (((Int32.toUInt32 (x4 &&& (255 : Int32))) % 65536).toInt32)) (some ((((Int32.toUInt32 (x4 &&& (255 : Int32))) % 65536).toInt32), w1)))) = some z) : fJ1_charAt_1011 v1 m = some z := by
  refine xstI ?_
  show xT 161 2 0 [(0, .ref 1011), (1, .int v1)] [] m (some (.int z.1), z.2)
  refine e_iload_n rfl rfl (xnm_no rfl) ?_
  refine e_aload_n rfl rfl rfl (xnm_no rfl) ?_
  refine e_alen (v := 3) rfl rfl (xnm_no rfl) ?_
  obtain ⟨w1, hw2, h⟩ := xbd_some h
  refine e_cVS (hc := hw2) (rest := []) rfl rfl rfl rfl rfl rfl rfl rfl (xnm_no rfl) ?_
  refine e_aload_n rfl rfl rfl (xnm_no rfl) ?_
  refine e_iload_n rfl rfl (xnm_no rfl) ?_
  obtain ⟨g3, h⟩ := xgd_some h
  obtain ⟨x4, g5, h⟩ := xbd_some h
  refine e_sbld rfl (by decide) (of_decide_eq_true g3) g5 (xnm_no rfl) ?_
  refine e_sipush (x := 255) rfl (by decide) (xnm_no rfl) ?_
  refine e_iand rfl (xnm_no rfl) ?_
  refine e_i2c rfl (xnm_no rfl) ?_
  obtain ⟨g6, h⟩ := xgd_some h
  cases h
  exact e_retI rfl g6
set_option maxRecDepth 4000 in
theorem fJ0_charAt_1001_i (v1 : Int32) (m : xmm) {z : Int32 × xmm} (h : ((fJ0_isLatin1_1001 m).bind fun (w1 : Int32 × xmm) => if w1.1 = 0 then none else (fJ1_charAt_1011 v1 w1.2).bind fun (w3 : Int32 × xmm) => xgd (xretok (xrt 157) w3.1) (some (w3.1, w3.2))) = some z) : fJ0_charAt_1001 v1 m = some z := by
  refine xstI ?_
  show xT 157 3 0 [(0, .ref 1001), (1, .int v1)] [] m (some (.int z.1), z.2)
  refine e_aload_n rfl rfl rfl (xnm_no rfl) ?_
  obtain ⟨w1, hw2, h⟩ := xbd_some h
  refine e_cIV (hc := hw2) (rest := []) rfl rfl rfl rfl rfl rfl rfl rfl (xnm_no rfl) ?_
  refine e_if_eq (t := 16) rfl rfl (xnm_no rfl) (xnm_no rfl) h (fun h => ?_) (fun h => ?_)
  · refine e_aload_n rfl rfl rfl (xnm_no rfl) ?_
    refine e_getSV rfl rfl (by decide) (xnm_no rfl) ?_
    refine e_iload_n rfl rfl (xnm_no rfl) ?_
    cases h
  · refine e_aload_n rfl rfl rfl (xnm_no rfl) ?_
    refine e_getSV rfl rfl (by decide) (xnm_no rfl) ?_
    refine e_iload_n rfl rfl (xnm_no rfl) ?_
    obtain ⟨w3, hw4, h⟩ := xbd_some h
    refine e_cIS (hc := hw4) (rest := []) rfl rfl rfl rfl rfl rfl rfl rfl (xnm_no rfl) ?_
    obtain ⟨g5, h⟩ := xgd_some h
    cases h
    exact e_retI rfl g5
set_option maxRecDepth 4000 in
theorem fX7_isWord_1_1001_i (v1 : Int32) (v2 : Int32) (m : xmm) {z : Int32 × xmm} (h : ((fJ0_length_1001 m).bind fun (w1 : Int32 × xmm) => if (v2 - v1) = w1.1 then bX7_isWord_1_1001_15 v1 (0 : Int32) w1.2 else some ((0 : Int32), w1.2)) = some z) : fX7_isWord_1_1001 v1 v2 m = some z := by
  refine xstI ?_
  show xT 80 4 0 [(0, .ref 1), (1, .int v1), (2, .int v2), (3, .ref 1001)] [] m (some (.int z.1), z.2)
  refine e_iload_n rfl rfl (xnm_no rfl) ?_
  refine e_iload_n rfl rfl (xnm_no rfl) ?_
  refine e_isub rfl (xnm_no rfl) ?_
  refine e_aload_n rfl rfl rfl (xnm_no rfl) ?_
  obtain ⟨w1, hw2, h⟩ := xbd_some h
  refine e_cIV (hc := hw2) (rest := [.int _]) rfl rfl rfl rfl rfl rfl rfl rfl (xnm_no rfl) ?_
  refine e_icmp_eq (t := 12) rfl rfl (xnm_no rfl) (xnm_no rfl) h (fun h => ?_) (fun h => ?_)
  · refine e_iconst (x := 0) rfl (by decide) (xnm_no rfl) ?_
    refine e_istore rfl rfl rfl ?_
    exact xlfI h
  · refine e_iconst (x := 0) rfl (by decide) (xnm_no rfl) ?_
    cases h
    exact e_retI rfl (by decide)
set_option maxRecDepth 4000 in
theorem bX7_isWord_1_1001_15_i (v1 : Int32) (v4 : Int32) (m : xmm) {z : Int32 × xmm} (h : ((fJ0_length_1001 m).bind fun (w1 : Int32 × xmm) => if w1.1 ≤ v4 then some ((1 : Int32), w1.2) else (fX7_signAt_1 (v1 + v4) w1.2).bind fun (w3 : Int32 × xmm) => (fJ0_charAt_1001 v4 w3.2).bind fun (w5 : Int32 × xmm) => if w3.1 = w5.1 then bX7_isWord_1_1001_15 v1 (v4 + (1 : Int32)) w5.2 else some ((0 : Int32), w5.2)) = some z) : bX7_isWord_1_1001_15 v1 v4 m = some z := by
  refine xstI ?_
  show xT 80 4 15 [(0, .ref 1), (1, .int v1), (3, .ref 1001), (4, .int v4)] [] m (some (.int z.1), z.2)
  refine e_iload rfl rfl (xnm_no rfl) ?_
  refine e_aload_n rfl rfl rfl (xnm_no rfl) ?_
  obtain ⟨w1, hw2, h⟩ := xbd_some h
  refine e_cIV (hc := hw2) (rest := [.int _]) rfl rfl rfl rfl rfl rfl rfl rfl (xnm_no rfl) ?_
  refine e_icmp_ge (t := 49) rfl rfl (xnm_no rfl) (xnm_no rfl) h (fun h => ?_) (fun h => ?_)
  · refine e_iconst (x := 1) rfl (by decide) (xnm_no rfl) ?_
    cases h
    exact e_retI rfl (by decide)
  · refine e_aload_n rfl rfl rfl (xnm_no rfl) ?_
    refine e_iload_n rfl rfl (xnm_no rfl) ?_
    refine e_iload rfl rfl (xnm_no rfl) ?_
    refine e_iadd rfl (xnm_no rfl) ?_
    obtain ⟨w3, hw4, h⟩ := xbd_some h
    refine e_cIV (hc := hw4) (rest := []) rfl rfl rfl rfl rfl rfl rfl rfl (xnm_no rfl) ?_
    refine e_aload_n rfl rfl rfl (xnm_no rfl) ?_
    refine e_iload rfl rfl (xnm_no rfl) ?_
    obtain ⟨w5, hw6, h⟩ := xbd_some h
    refine e_cIV (hc := hw6) (rest := [.int _]) rfl rfl rfl rfl rfl rfl rfl rfl (xnm_no rfl) ?_
    refine e_icmp_eq (t := 43) rfl rfl (xnm_no rfl) (xnm_no rfl) h (fun h => ?_) (fun h => ?_)
    · refine e_iinc (y := 1) rfl rfl rfl (by decide) (xnm_no rfl) ?_
      refine e_goto (t := 15) rfl rfl rfl ?_
      exact xlfI h
    · refine e_iconst (x := 0) rfl (by decide) (xnm_no rfl) ?_
      cases h
      exact e_retI rfl (by decide)
set_option maxRecDepth 4000 in
theorem fJ0_coder_1002_i (m : xmm) {z : Int32 × xmm} (h : (if (1 : Int32) = 0 then some ((1 : Int32), m) else some ((0 : Int32), m)) = some z) : fJ0_coder_1002 m = some z := by
  refine xstI ?_
  show xT 158 0 0 [(0, .ref 1002)] [] m (some (.int z.1), z.2)
  refine e_statI rfl rfl (xnm_no rfl) ?_
  refine e_if_eq (t := 13) rfl rfl (xnm_no rfl) (xnm_no rfl) h (fun h => ?_) (fun h => ?_)
  · refine e_iconst (x := 1) rfl (by decide) (xnm_no rfl) ?_
    cases h
    exact e_retI rfl (by decide)
  · refine e_aload_n rfl rfl rfl (xnm_no rfl) ?_
    refine e_getSC rfl rfl (by decide) (xnm_no rfl) ?_
    refine e_goto (t := 14) rfl rfl (xnm_no rfl) ?_
    cases h
    exact e_retI rfl (by decide)
set_option maxRecDepth 4000 in
theorem fJ0_length_1002_i (m : xmm) {z : Int32 × xmm} (h : ((fJ0_coder_1002 m).bind fun (w1 : Int32 × xmm) => some (((4 : Int32) >>> (w1.1 &&& 31)), w1.2)) = some z) : fJ0_length_1002 m = some z := by
  refine xstI ?_
  show xT 156 1 0 [(0, .ref 1002)] [] m (some (.int z.1), z.2)
  refine e_aload_n rfl rfl rfl (xnm_no rfl) ?_
  refine e_getSV rfl rfl (by decide) (xnm_no rfl) ?_
  refine e_alen (v := 4) rfl rfl (xnm_no rfl) ?_
  refine e_aload_n rfl rfl rfl (xnm_no rfl) ?_
  obtain ⟨w1, hw2, h⟩ := xbd_some h
  refine e_cIV (hc := hw2) (rest := [.int _]) rfl rfl rfl rfl rfl rfl rfl rfl (xnm_no rfl) ?_
  refine e_ishr rfl (xnm_no rfl) ?_
  cases h
  exact e_retI rfl rfl
set_option maxRecDepth 4000 in
theorem fJ0_isLatin1_1002_i (m : xmm) {z : Int32 × xmm} (h : (if (1 : Int32) = 0 then some ((0 : Int32), m) else if (0 : Int32) = 0 then some ((1 : Int32), m) else some ((0 : Int32), m)) = some z) : fJ0_isLatin1_1002 m = some z := by
  refine xstI ?_
  show xT 159 0 0 [(0, .ref 1002)] [] m (some (.int z.1), z.2)
  refine e_statI rfl rfl (xnm_no rfl) ?_
  refine e_if_eq (t := 17) rfl rfl (xnm_no rfl) (xnm_no rfl) h (fun h => ?_) (fun h => ?_)
  · refine e_iconst (x := 0) rfl (by decide) (xnm_no rfl) ?_
    cases h
    exact e_retI rfl (by decide)
  · refine e_aload_n rfl rfl rfl (xnm_no rfl) ?_
    refine e_getSC rfl rfl (by decide) (xnm_no rfl) ?_
    refine e_if_ne (t := 17) rfl rfl (xnm_no rfl) (xnm_no rfl) h (fun h => ?_) (fun h => ?_)
    · refine e_iconst (x := 0) rfl (by decide) (xnm_no rfl) ?_
      cases h
      exact e_retI rfl (by decide)
    · refine e_iconst (x := 1) rfl (by decide) (xnm_no rfl) ?_
      refine e_goto (t := 18) rfl rfl (xnm_no rfl) ?_
      cases h
      exact e_retI rfl (by decide)
set_option maxRecDepth 4000 in
theorem fJ1_charAt_1012_i (v1 : Int32) (m : xmm) {z : Int32 × xmm} (h : ((fJ0_checkIndex v1 (4 : Int32) m).bind fun (w1 : xmm) => xgd (decide (0 ≤ v1)) (((xstr 2)[(v1).toNatClampNeg]?).bind fun x4 => xgd (xretok (xrt 161) (((Int32.toUInt32 (x4 &&& (255 : Int32))) % 65536).toInt32)) (some ((((Int32.toUInt32 (x4 &&& (255 : Int32))) % 65536).toInt32), w1)))) = some z) : fJ1_charAt_1012 v1 m = some z := by
  refine xstI ?_
  show xT 161 2 0 [(0, .ref 1012), (1, .int v1)] [] m (some (.int z.1), z.2)
  refine e_iload_n rfl rfl (xnm_no rfl) ?_
  refine e_aload_n rfl rfl rfl (xnm_no rfl) ?_
  refine e_alen (v := 4) rfl rfl (xnm_no rfl) ?_
  obtain ⟨w1, hw2, h⟩ := xbd_some h
  refine e_cVS (hc := hw2) (rest := []) rfl rfl rfl rfl rfl rfl rfl rfl (xnm_no rfl) ?_
  refine e_aload_n rfl rfl rfl (xnm_no rfl) ?_
  refine e_iload_n rfl rfl (xnm_no rfl) ?_
  obtain ⟨g3, h⟩ := xgd_some h
  obtain ⟨x4, g5, h⟩ := xbd_some h
  refine e_sbld rfl (by decide) (of_decide_eq_true g3) g5 (xnm_no rfl) ?_
  refine e_sipush (x := 255) rfl (by decide) (xnm_no rfl) ?_
  refine e_iand rfl (xnm_no rfl) ?_
  refine e_i2c rfl (xnm_no rfl) ?_
  obtain ⟨g6, h⟩ := xgd_some h
  cases h
  exact e_retI rfl g6
set_option maxRecDepth 4000 in
theorem fJ0_charAt_1002_i (v1 : Int32) (m : xmm) {z : Int32 × xmm} (h : ((fJ0_isLatin1_1002 m).bind fun (w1 : Int32 × xmm) => if w1.1 = 0 then none else (fJ1_charAt_1012 v1 w1.2).bind fun (w3 : Int32 × xmm) => xgd (xretok (xrt 157) w3.1) (some (w3.1, w3.2))) = some z) : fJ0_charAt_1002 v1 m = some z := by
  refine xstI ?_
  show xT 157 3 0 [(0, .ref 1002), (1, .int v1)] [] m (some (.int z.1), z.2)
  refine e_aload_n rfl rfl rfl (xnm_no rfl) ?_
  obtain ⟨w1, hw2, h⟩ := xbd_some h
  refine e_cIV (hc := hw2) (rest := []) rfl rfl rfl rfl rfl rfl rfl rfl (xnm_no rfl) ?_
  refine e_if_eq (t := 16) rfl rfl (xnm_no rfl) (xnm_no rfl) h (fun h => ?_) (fun h => ?_)
  · refine e_aload_n rfl rfl rfl (xnm_no rfl) ?_
    refine e_getSV rfl rfl (by decide) (xnm_no rfl) ?_
    refine e_iload_n rfl rfl (xnm_no rfl) ?_
    cases h
  · refine e_aload_n rfl rfl rfl (xnm_no rfl) ?_
    refine e_getSV rfl rfl (by decide) (xnm_no rfl) ?_
    refine e_iload_n rfl rfl (xnm_no rfl) ?_
    obtain ⟨w3, hw4, h⟩ := xbd_some h
    refine e_cIS (hc := hw4) (rest := []) rfl rfl rfl rfl rfl rfl rfl rfl (xnm_no rfl) ?_
    obtain ⟨g5, h⟩ := xgd_some h
    cases h
    exact e_retI rfl g5
set_option maxRecDepth 4000 in
theorem fX7_isWord_1_1002_i (v1 : Int32) (v2 : Int32) (m : xmm) {z : Int32 × xmm} (h : ((fJ0_length_1002 m).bind fun (w1 : Int32 × xmm) => if (v2 - v1) = w1.1 then bX7_isWord_1_1002_15 v1 (0 : Int32) w1.2 else some ((0 : Int32), w1.2)) = some z) : fX7_isWord_1_1002 v1 v2 m = some z := by
  refine xstI ?_
  show xT 80 4 0 [(0, .ref 1), (1, .int v1), (2, .int v2), (3, .ref 1002)] [] m (some (.int z.1), z.2)
  refine e_iload_n rfl rfl (xnm_no rfl) ?_
  refine e_iload_n rfl rfl (xnm_no rfl) ?_
  refine e_isub rfl (xnm_no rfl) ?_
  refine e_aload_n rfl rfl rfl (xnm_no rfl) ?_
  obtain ⟨w1, hw2, h⟩ := xbd_some h
  refine e_cIV (hc := hw2) (rest := [.int _]) rfl rfl rfl rfl rfl rfl rfl rfl (xnm_no rfl) ?_
  refine e_icmp_eq (t := 12) rfl rfl (xnm_no rfl) (xnm_no rfl) h (fun h => ?_) (fun h => ?_)
  · refine e_iconst (x := 0) rfl (by decide) (xnm_no rfl) ?_
    refine e_istore rfl rfl rfl ?_
    exact xlfI h
  · refine e_iconst (x := 0) rfl (by decide) (xnm_no rfl) ?_
    cases h
    exact e_retI rfl (by decide)
set_option maxRecDepth 4000 in
theorem bX7_isWord_1_1002_15_i (v1 : Int32) (v4 : Int32) (m : xmm) {z : Int32 × xmm} (h : ((fJ0_length_1002 m).bind fun (w1 : Int32 × xmm) => if w1.1 ≤ v4 then some ((1 : Int32), w1.2) else (fX7_signAt_1 (v1 + v4) w1.2).bind fun (w3 : Int32 × xmm) => (fJ0_charAt_1002 v4 w3.2).bind fun (w5 : Int32 × xmm) => if w3.1 = w5.1 then bX7_isWord_1_1002_15 v1 (v4 + (1 : Int32)) w5.2 else some ((0 : Int32), w5.2)) = some z) : bX7_isWord_1_1002_15 v1 v4 m = some z := by
  refine xstI ?_
  show xT 80 4 15 [(0, .ref 1), (1, .int v1), (3, .ref 1002), (4, .int v4)] [] m (some (.int z.1), z.2)
  refine e_iload rfl rfl (xnm_no rfl) ?_
  refine e_aload_n rfl rfl rfl (xnm_no rfl) ?_
  obtain ⟨w1, hw2, h⟩ := xbd_some h
  refine e_cIV (hc := hw2) (rest := [.int _]) rfl rfl rfl rfl rfl rfl rfl rfl (xnm_no rfl) ?_
  refine e_icmp_ge (t := 49) rfl rfl (xnm_no rfl) (xnm_no rfl) h (fun h => ?_) (fun h => ?_)
  · refine e_iconst (x := 1) rfl (by decide) (xnm_no rfl) ?_
    cases h
    exact e_retI rfl (by decide)
  · refine e_aload_n rfl rfl rfl (xnm_no rfl) ?_
    refine e_iload_n rfl rfl (xnm_no rfl) ?_
    refine e_iload rfl rfl (xnm_no rfl) ?_
    refine e_iadd rfl (xnm_no rfl) ?_
    obtain ⟨w3, hw4, h⟩ := xbd_some h
    refine e_cIV (hc := hw4) (rest := []) rfl rfl rfl rfl rfl rfl rfl rfl (xnm_no rfl) ?_
    refine e_aload_n rfl rfl rfl (xnm_no rfl) ?_
    refine e_iload rfl rfl (xnm_no rfl) ?_
    obtain ⟨w5, hw6, h⟩ := xbd_some h
    refine e_cIV (hc := hw6) (rest := [.int _]) rfl rfl rfl rfl rfl rfl rfl rfl (xnm_no rfl) ?_
    refine e_icmp_eq (t := 43) rfl rfl (xnm_no rfl) (xnm_no rfl) h (fun h => ?_) (fun h => ?_)
    · refine e_iinc (y := 1) rfl rfl rfl (by decide) (xnm_no rfl) ?_
      refine e_goto (t := 15) rfl rfl rfl ?_
      exact xlfI h
    · refine e_iconst (x := 0) rfl (by decide) (xnm_no rfl) ?_
      cases h
      exact e_retI rfl (by decide)
set_option maxRecDepth 4000 in
theorem fJ0_coder_1003_i (m : xmm) {z : Int32 × xmm} (h : (if (1 : Int32) = 0 then some ((1 : Int32), m) else some ((0 : Int32), m)) = some z) : fJ0_coder_1003 m = some z := by
  refine xstI ?_
  show xT 158 0 0 [(0, .ref 1003)] [] m (some (.int z.1), z.2)
  refine e_statI rfl rfl (xnm_no rfl) ?_
  refine e_if_eq (t := 13) rfl rfl (xnm_no rfl) (xnm_no rfl) h (fun h => ?_) (fun h => ?_)
  · refine e_iconst (x := 1) rfl (by decide) (xnm_no rfl) ?_
    cases h
    exact e_retI rfl (by decide)
  · refine e_aload_n rfl rfl rfl (xnm_no rfl) ?_
    refine e_getSC rfl rfl (by decide) (xnm_no rfl) ?_
    refine e_goto (t := 14) rfl rfl (xnm_no rfl) ?_
    cases h
    exact e_retI rfl (by decide)
set_option maxRecDepth 4000 in
theorem fJ0_length_1003_i (m : xmm) {z : Int32 × xmm} (h : ((fJ0_coder_1003 m).bind fun (w1 : Int32 × xmm) => some (((5 : Int32) >>> (w1.1 &&& 31)), w1.2)) = some z) : fJ0_length_1003 m = some z := by
  refine xstI ?_
  show xT 156 1 0 [(0, .ref 1003)] [] m (some (.int z.1), z.2)
  refine e_aload_n rfl rfl rfl (xnm_no rfl) ?_
  refine e_getSV rfl rfl (by decide) (xnm_no rfl) ?_
  refine e_alen (v := 5) rfl rfl (xnm_no rfl) ?_
  refine e_aload_n rfl rfl rfl (xnm_no rfl) ?_
  obtain ⟨w1, hw2, h⟩ := xbd_some h
  refine e_cIV (hc := hw2) (rest := [.int _]) rfl rfl rfl rfl rfl rfl rfl rfl (xnm_no rfl) ?_
  refine e_ishr rfl (xnm_no rfl) ?_
  cases h
  exact e_retI rfl rfl
set_option maxRecDepth 4000 in
theorem fJ0_isLatin1_1003_i (m : xmm) {z : Int32 × xmm} (h : (if (1 : Int32) = 0 then some ((0 : Int32), m) else if (0 : Int32) = 0 then some ((1 : Int32), m) else some ((0 : Int32), m)) = some z) : fJ0_isLatin1_1003 m = some z := by
  refine xstI ?_
  show xT 159 0 0 [(0, .ref 1003)] [] m (some (.int z.1), z.2)
  refine e_statI rfl rfl (xnm_no rfl) ?_
  refine e_if_eq (t := 17) rfl rfl (xnm_no rfl) (xnm_no rfl) h (fun h => ?_) (fun h => ?_)
  · refine e_iconst (x := 0) rfl (by decide) (xnm_no rfl) ?_
    cases h
    exact e_retI rfl (by decide)
  · refine e_aload_n rfl rfl rfl (xnm_no rfl) ?_
    refine e_getSC rfl rfl (by decide) (xnm_no rfl) ?_
    refine e_if_ne (t := 17) rfl rfl (xnm_no rfl) (xnm_no rfl) h (fun h => ?_) (fun h => ?_)
    · refine e_iconst (x := 0) rfl (by decide) (xnm_no rfl) ?_
      cases h
      exact e_retI rfl (by decide)
    · refine e_iconst (x := 1) rfl (by decide) (xnm_no rfl) ?_
      refine e_goto (t := 18) rfl rfl (xnm_no rfl) ?_
      cases h
      exact e_retI rfl (by decide)
set_option maxRecDepth 4000 in
theorem fJ1_charAt_1013_i (v1 : Int32) (m : xmm) {z : Int32 × xmm} (h : ((fJ0_checkIndex v1 (5 : Int32) m).bind fun (w1 : xmm) => xgd (decide (0 ≤ v1)) (((xstr 3)[(v1).toNatClampNeg]?).bind fun x4 => xgd (xretok (xrt 161) (((Int32.toUInt32 (x4 &&& (255 : Int32))) % 65536).toInt32)) (some ((((Int32.toUInt32 (x4 &&& (255 : Int32))) % 65536).toInt32), w1)))) = some z) : fJ1_charAt_1013 v1 m = some z := by
  refine xstI ?_
  show xT 161 2 0 [(0, .ref 1013), (1, .int v1)] [] m (some (.int z.1), z.2)
  refine e_iload_n rfl rfl (xnm_no rfl) ?_
  refine e_aload_n rfl rfl rfl (xnm_no rfl) ?_
  refine e_alen (v := 5) rfl rfl (xnm_no rfl) ?_
  obtain ⟨w1, hw2, h⟩ := xbd_some h
  refine e_cVS (hc := hw2) (rest := []) rfl rfl rfl rfl rfl rfl rfl rfl (xnm_no rfl) ?_
  refine e_aload_n rfl rfl rfl (xnm_no rfl) ?_
  refine e_iload_n rfl rfl (xnm_no rfl) ?_
  obtain ⟨g3, h⟩ := xgd_some h
  obtain ⟨x4, g5, h⟩ := xbd_some h
  refine e_sbld rfl (by decide) (of_decide_eq_true g3) g5 (xnm_no rfl) ?_
  refine e_sipush (x := 255) rfl (by decide) (xnm_no rfl) ?_
  refine e_iand rfl (xnm_no rfl) ?_
  refine e_i2c rfl (xnm_no rfl) ?_
  obtain ⟨g6, h⟩ := xgd_some h
  cases h
  exact e_retI rfl g6
set_option maxRecDepth 4000 in
theorem fJ0_charAt_1003_i (v1 : Int32) (m : xmm) {z : Int32 × xmm} (h : ((fJ0_isLatin1_1003 m).bind fun (w1 : Int32 × xmm) => if w1.1 = 0 then none else (fJ1_charAt_1013 v1 w1.2).bind fun (w3 : Int32 × xmm) => xgd (xretok (xrt 157) w3.1) (some (w3.1, w3.2))) = some z) : fJ0_charAt_1003 v1 m = some z := by
  refine xstI ?_
  show xT 157 3 0 [(0, .ref 1003), (1, .int v1)] [] m (some (.int z.1), z.2)
  refine e_aload_n rfl rfl rfl (xnm_no rfl) ?_
  obtain ⟨w1, hw2, h⟩ := xbd_some h
  refine e_cIV (hc := hw2) (rest := []) rfl rfl rfl rfl rfl rfl rfl rfl (xnm_no rfl) ?_
  refine e_if_eq (t := 16) rfl rfl (xnm_no rfl) (xnm_no rfl) h (fun h => ?_) (fun h => ?_)
  · refine e_aload_n rfl rfl rfl (xnm_no rfl) ?_
    refine e_getSV rfl rfl (by decide) (xnm_no rfl) ?_
    refine e_iload_n rfl rfl (xnm_no rfl) ?_
    cases h
  · refine e_aload_n rfl rfl rfl (xnm_no rfl) ?_
    refine e_getSV rfl rfl (by decide) (xnm_no rfl) ?_
    refine e_iload_n rfl rfl (xnm_no rfl) ?_
    obtain ⟨w3, hw4, h⟩ := xbd_some h
    refine e_cIS (hc := hw4) (rest := []) rfl rfl rfl rfl rfl rfl rfl rfl (xnm_no rfl) ?_
    obtain ⟨g5, h⟩ := xgd_some h
    cases h
    exact e_retI rfl g5
set_option maxRecDepth 4000 in
theorem fX7_isWord_1_1003_i (v1 : Int32) (v2 : Int32) (m : xmm) {z : Int32 × xmm} (h : ((fJ0_length_1003 m).bind fun (w1 : Int32 × xmm) => if (v2 - v1) = w1.1 then bX7_isWord_1_1003_15 v1 (0 : Int32) w1.2 else some ((0 : Int32), w1.2)) = some z) : fX7_isWord_1_1003 v1 v2 m = some z := by
  refine xstI ?_
  show xT 80 4 0 [(0, .ref 1), (1, .int v1), (2, .int v2), (3, .ref 1003)] [] m (some (.int z.1), z.2)
  refine e_iload_n rfl rfl (xnm_no rfl) ?_
  refine e_iload_n rfl rfl (xnm_no rfl) ?_
  refine e_isub rfl (xnm_no rfl) ?_
  refine e_aload_n rfl rfl rfl (xnm_no rfl) ?_
  obtain ⟨w1, hw2, h⟩ := xbd_some h
  refine e_cIV (hc := hw2) (rest := [.int _]) rfl rfl rfl rfl rfl rfl rfl rfl (xnm_no rfl) ?_
  refine e_icmp_eq (t := 12) rfl rfl (xnm_no rfl) (xnm_no rfl) h (fun h => ?_) (fun h => ?_)
  · refine e_iconst (x := 0) rfl (by decide) (xnm_no rfl) ?_
    refine e_istore rfl rfl rfl ?_
    exact xlfI h
  · refine e_iconst (x := 0) rfl (by decide) (xnm_no rfl) ?_
    cases h
    exact e_retI rfl (by decide)
set_option maxRecDepth 4000 in
theorem bX7_isWord_1_1003_15_i (v1 : Int32) (v4 : Int32) (m : xmm) {z : Int32 × xmm} (h : ((fJ0_length_1003 m).bind fun (w1 : Int32 × xmm) => if w1.1 ≤ v4 then some ((1 : Int32), w1.2) else (fX7_signAt_1 (v1 + v4) w1.2).bind fun (w3 : Int32 × xmm) => (fJ0_charAt_1003 v4 w3.2).bind fun (w5 : Int32 × xmm) => if w3.1 = w5.1 then bX7_isWord_1_1003_15 v1 (v4 + (1 : Int32)) w5.2 else some ((0 : Int32), w5.2)) = some z) : bX7_isWord_1_1003_15 v1 v4 m = some z := by
  refine xstI ?_
  show xT 80 4 15 [(0, .ref 1), (1, .int v1), (3, .ref 1003), (4, .int v4)] [] m (some (.int z.1), z.2)
  refine e_iload rfl rfl (xnm_no rfl) ?_
  refine e_aload_n rfl rfl rfl (xnm_no rfl) ?_
  obtain ⟨w1, hw2, h⟩ := xbd_some h
  refine e_cIV (hc := hw2) (rest := [.int _]) rfl rfl rfl rfl rfl rfl rfl rfl (xnm_no rfl) ?_
  refine e_icmp_ge (t := 49) rfl rfl (xnm_no rfl) (xnm_no rfl) h (fun h => ?_) (fun h => ?_)
  · refine e_iconst (x := 1) rfl (by decide) (xnm_no rfl) ?_
    cases h
    exact e_retI rfl (by decide)
  · refine e_aload_n rfl rfl rfl (xnm_no rfl) ?_
    refine e_iload_n rfl rfl (xnm_no rfl) ?_
    refine e_iload rfl rfl (xnm_no rfl) ?_
    refine e_iadd rfl (xnm_no rfl) ?_
    obtain ⟨w3, hw4, h⟩ := xbd_some h
    refine e_cIV (hc := hw4) (rest := []) rfl rfl rfl rfl rfl rfl rfl rfl (xnm_no rfl) ?_
    refine e_aload_n rfl rfl rfl (xnm_no rfl) ?_
    refine e_iload rfl rfl (xnm_no rfl) ?_
    obtain ⟨w5, hw6, h⟩ := xbd_some h
    refine e_cIV (hc := hw6) (rest := [.int _]) rfl rfl rfl rfl rfl rfl rfl rfl (xnm_no rfl) ?_
    refine e_icmp_eq (t := 43) rfl rfl (xnm_no rfl) (xnm_no rfl) h (fun h => ?_) (fun h => ?_)
    · refine e_iinc (y := 1) rfl rfl rfl (by decide) (xnm_no rfl) ?_
      refine e_goto (t := 15) rfl rfl rfl ?_
      exact xlfI h
    · refine e_iconst (x := 0) rfl (by decide) (xnm_no rfl) ?_
      cases h
      exact e_retI rfl (by decide)
set_option maxRecDepth 4000 in
theorem fX7_wordKind_1_i (v1 : Int32) (v2 : Int32) (m : xmm) {z : Int32 × xmm} (h : ((fX7_isWord_1_1000 v1 v2 m).bind fun (w1 : Int32 × xmm) => if w1.1 = 0 then (fX7_isWord_1_1001 v1 v2 w1.2).bind fun (w3 : Int32 × xmm) => if w3.1 = 0 then (fX7_isWord_1_1002 v1 v2 w3.2).bind fun (w5 : Int32 × xmm) => if w5.1 = 0 then (fX7_isWord_1_1003 v1 v2 w5.2).bind fun (w7 : Int32 × xmm) => if w7.1 = 0 then some ((1 : Int32), w7.2) else some ((7 : Int32), w7.2) else some ((6 : Int32), w5.2) else some ((5 : Int32), w3.2) else some ((4 : Int32), w1.2)) = some z) : fX7_wordKind_1 v1 v2 m = some z := by
  refine xstI ?_
  show xT 79 5 0 [(0, .ref 1), (1, .int v1), (2, .int v2)] [] m (some (.int z.1), z.2)
  refine e_aload_n rfl rfl rfl (xnm_no rfl) ?_
  refine e_iload_n rfl rfl (xnm_no rfl) ?_
  refine e_iload_n rfl rfl (xnm_no rfl) ?_
  refine e_ldcS (j := 0) rfl rfl rfl (xnm_no rfl) ?_
  obtain ⟨w1, hw2, h⟩ := xbd_some h
  refine e_cIV (hc := hw2) (rest := []) rfl rfl rfl rfl rfl rfl rfl rfl (xnm_no rfl) ?_
  refine e_if_eq (t := 13) rfl rfl (xnm_no rfl) (xnm_no rfl) h (fun h => ?_) (fun h => ?_)
  · refine e_aload_n rfl rfl rfl (xnm_no rfl) ?_
    refine e_iload_n rfl rfl (xnm_no rfl) ?_
    refine e_iload_n rfl rfl (xnm_no rfl) ?_
    refine e_ldcS (j := 1) rfl rfl rfl (xnm_no rfl) ?_
    obtain ⟨w3, hw4, h⟩ := xbd_some h
    refine e_cIV (hc := hw4) (rest := []) rfl rfl rfl rfl rfl rfl rfl rfl (xnm_no rfl) ?_
    refine e_if_eq (t := 26) rfl rfl (xnm_no rfl) (xnm_no rfl) h (fun h => ?_) (fun h => ?_)
    · refine e_aload_n rfl rfl rfl (xnm_no rfl) ?_
      refine e_iload_n rfl rfl (xnm_no rfl) ?_
      refine e_iload_n rfl rfl (xnm_no rfl) ?_
      refine e_ldcS (j := 2) rfl rfl rfl (xnm_no rfl) ?_
      obtain ⟨w5, hw6, h⟩ := xbd_some h
      refine e_cIV (hc := hw6) (rest := []) rfl rfl rfl rfl rfl rfl rfl rfl (xnm_no rfl) ?_
      refine e_if_eq (t := 40) rfl rfl (xnm_no rfl) (xnm_no rfl) h (fun h => ?_) (fun h => ?_)
      · refine e_aload_n rfl rfl rfl (xnm_no rfl) ?_
        refine e_iload_n rfl rfl (xnm_no rfl) ?_
        refine e_iload_n rfl rfl (xnm_no rfl) ?_
        refine e_ldcS (j := 3) rfl rfl rfl (xnm_no rfl) ?_
        obtain ⟨w7, hw8, h⟩ := xbd_some h
        refine e_cIV (hc := hw8) (rest := []) rfl rfl rfl rfl rfl rfl rfl rfl (xnm_no rfl) ?_
        refine e_if_eq (t := 56) rfl rfl (xnm_no rfl) (xnm_no rfl) h (fun h => ?_) (fun h => ?_)
        · refine e_iconst (x := 1) rfl (by decide) (xnm_no rfl) ?_
          cases h
          exact e_retI rfl rfl
        · refine e_bipush (x := 7) rfl (by decide) (xnm_no rfl) ?_
          refine e_goto (t := 57) rfl rfl (xnm_no rfl) ?_
          cases h
          exact e_retI rfl rfl
      · refine e_bipush (x := 6) rfl (by decide) (xnm_no rfl) ?_
        cases h
        exact e_retI rfl rfl
    · refine e_iconst (x := 5) rfl (by decide) (xnm_no rfl) ?_
      cases h
      exact e_retI rfl rfl
  · refine e_iconst (x := 4) rfl (by decide) (xnm_no rfl) ?_
    cases h
    exact e_retI rfl rfl
set_option maxRecDepth 4000 in
theorem fX7_scan_1_i (m : xmm) {z : Int32 × xmm} (h : (if (m.1 1 9) < (m.1 1 1) then (fX7_isLetterAt_1 (m.1 1 9) m).bind fun (w1 : Int32 × xmm) => if w1.1 = 0 then (fX7_isDigitAt_1 (m.1 1 9) w1.2).bind fun (w3 : Int32 × xmm) => if w3.1 = 0 then xlt (xwi w3.2 1 9 ((w3.2.1 1 9) + (1 : Int32))) fun (m5 : xmm) => (fX7_signAt_1 (m.1 1 9) m5).bind fun (w6 : Int32 × xmm) => if w6.1 = (59 : Int32) then some ((3 : Int32), w6.2) else some ((8 : Int32), w6.2) else bX7_scan_1_99 (m.1 1 9) (0 : Int32) w3.2 else bX7_scan_1_29 (m.1 1 9) (0 : Int32) w1.2 else some ((9 : Int32), m)) = some z) : fX7_scan_1 m = some z := by
  refine xstI ?_
  show xT 78 6 0 [(0, .ref 1)] [] m (some (.int z.1), z.2)
  refine e_aload_n rfl rfl rfl (xnm_no rfl) ?_
  refine e_getI rfl rfl rfl rfl (xnm_no rfl) ?_
  refine e_aload_n rfl rfl rfl (xnm_no rfl) ?_
  refine e_getI rfl rfl rfl rfl (xnm_no rfl) ?_
  refine e_icmp_lt (t := 14) rfl rfl (xnm_no rfl) (xnm_no rfl) h (fun h => ?_) (fun h => ?_)
  · refine e_aload_n rfl rfl rfl (xnm_no rfl) ?_
    refine e_getI rfl rfl rfl rfl (xnm_no rfl) ?_
    refine e_istore_n rfl rfl (xnm_no rfl) ?_
    refine e_aload_n rfl rfl rfl (xnm_no rfl) ?_
    refine e_iload_n rfl rfl (xnm_no rfl) ?_
    obtain ⟨w1, hw2, h⟩ := xbd_some h
    refine e_cIV (hc := hw2) (rest := []) rfl rfl rfl rfl rfl rfl rfl rfl (xnm_no rfl) ?_
    refine e_if_eq (t := 89) rfl rfl (xnm_no rfl) (xnm_no rfl) h (fun h => ?_) (fun h => ?_)
    · refine e_aload_n rfl rfl rfl (xnm_no rfl) ?_
      refine e_iload_n rfl rfl (xnm_no rfl) ?_
      obtain ⟨w3, hw4, h⟩ := xbd_some h
      refine e_cIV (hc := hw4) (rest := []) rfl rfl rfl rfl rfl rfl rfl rfl (xnm_no rfl) ?_
      refine e_if_eq (t := 150) rfl rfl (xnm_no rfl) (xnm_no rfl) h (fun h => ?_) (fun h => ?_)
      · refine e_aload_n rfl rfl rfl (xnm_no rfl) ?_
        refine e_dup rfl rfl (xnm_no rfl) ?_
        refine e_getI rfl rfl rfl rfl (xnm_no rfl) ?_
        refine e_iconst (x := 1) rfl (by decide) (xnm_no rfl) ?_
        refine e_iadd rfl (xnm_no rfl) ?_
        refine e_putI rfl rfl rfl rfl (xnm_no rfl) ?_
        replace h := xlt_b h
        refine e_aload_n rfl rfl rfl (xnm_no rfl) ?_
        refine e_iload_n rfl rfl (xnm_no rfl) ?_
        obtain ⟨w6, hw7, h⟩ := xbd_some h
        refine e_cIV (hc := hw7) (rest := []) rfl rfl rfl rfl rfl rfl rfl rfl (xnm_no rfl) ?_
        refine e_bipush (x := 59) rfl (by decide) (xnm_no rfl) ?_
        refine e_icmp_ne (t := 174) rfl rfl (xnm_no rfl) (xnm_no rfl) h (fun h => ?_) (fun h => ?_)
        · refine e_bipush (x := 8) rfl (by decide) (xnm_no rfl) ?_
          cases h
          exact e_retI rfl rfl
        · refine e_iconst (x := 3) rfl (by decide) (xnm_no rfl) ?_
          refine e_goto (t := 176) rfl rfl (xnm_no rfl) ?_
          cases h
          exact e_retI rfl rfl
      · refine e_iconst (x := 0) rfl (by decide) (xnm_no rfl) ?_
        refine e_istore_n rfl rfl rfl ?_
        exact xlfI h
    · refine e_iconst (x := 0) rfl (by decide) (xnm_no rfl) ?_
      refine e_istore_n rfl rfl rfl ?_
      exact xlfI h
  · refine e_bipush (x := 9) rfl (by decide) (xnm_no rfl) ?_
    cases h
    exact e_retI rfl rfl
set_option maxRecDepth 4000 in
theorem bX7_scan_1_99_i (v1 : Int32) (v2 : Int32) (m : xmm) {z : Int32 × xmm} (h : (if (2000 : Int32) ≤ v2 then bX7_scan_1_133 v1 m else (fX7_isDigitAt_1 (m.1 1 9) m).bind fun (w1 : Int32 × xmm) => if w1.1 = 0 then bX7_scan_1_133 v1 w1.2 else xlt (xwi w1.2 1 9 ((w1.2.1 1 9) + (1 : Int32))) fun (m3 : xmm) => bX7_scan_1_99 v1 (v2 + (1 : Int32)) m3) = some z) : bX7_scan_1_99 v1 v2 m = some z := by
  refine xstI ?_
  show xT 78 6 99 [(0, .ref 1), (1, .int v1), (2, .int v2)] [] m (some (.int z.1), z.2)
  refine e_iload_n rfl rfl (xnm_no rfl) ?_
  refine e_sipush (x := 2000) rfl (by decide) (xnm_no rfl) ?_
  refine e_icmp_ge (t := 133) rfl rfl rfl (xnm_no rfl) h (fun h => ?_) (fun h => ?_)
  · exact xlfI h
  · refine e_aload_n rfl rfl rfl (xnm_no rfl) ?_
    refine e_aload_n rfl rfl rfl (xnm_no rfl) ?_
    refine e_getI rfl rfl rfl rfl (xnm_no rfl) ?_
    obtain ⟨w1, hw2, h⟩ := xbd_some h
    refine e_cIV (hc := hw2) (rest := []) rfl rfl rfl rfl rfl rfl rfl rfl (xnm_no rfl) ?_
    refine e_if_eq (t := 133) rfl rfl rfl (xnm_no rfl) h (fun h => ?_) (fun h => ?_)
    · exact xlfI h
    · refine e_aload_n rfl rfl rfl (xnm_no rfl) ?_
      refine e_dup rfl rfl (xnm_no rfl) ?_
      refine e_getI rfl rfl rfl rfl (xnm_no rfl) ?_
      refine e_iconst (x := 1) rfl (by decide) (xnm_no rfl) ?_
      refine e_iadd rfl (xnm_no rfl) ?_
      refine e_putI rfl rfl rfl rfl (xnm_no rfl) ?_
      replace h := xlt_b h
      refine e_iinc (y := 1) rfl rfl rfl (by decide) (xnm_no rfl) ?_
      refine e_goto (t := 99) rfl rfl rfl ?_
      exact xlfI h
set_option maxRecDepth 4000 in
theorem bX7_scan_1_29_i (v1 : Int32) (v2 : Int32) (m : xmm) {z : Int32 × xmm} (h : (if (2000 : Int32) ≤ v2 then bX7_scan_1_63 v1 m else (fX7_isLetterAt_1 (m.1 1 9) m).bind fun (w1 : Int32 × xmm) => if w1.1 = 0 then bX7_scan_1_63 v1 w1.2 else xlt (xwi w1.2 1 9 ((w1.2.1 1 9) + (1 : Int32))) fun (m3 : xmm) => bX7_scan_1_29 v1 (v2 + (1 : Int32)) m3) = some z) : bX7_scan_1_29 v1 v2 m = some z := by
  refine xstI ?_
  show xT 78 6 29 [(0, .ref 1), (1, .int v1), (2, .int v2)] [] m (some (.int z.1), z.2)
  refine e_iload_n rfl rfl (xnm_no rfl) ?_
  refine e_sipush (x := 2000) rfl (by decide) (xnm_no rfl) ?_
  refine e_icmp_ge (t := 63) rfl rfl rfl (xnm_no rfl) h (fun h => ?_) (fun h => ?_)
  · exact xlfI h
  · refine e_aload_n rfl rfl rfl (xnm_no rfl) ?_
    refine e_aload_n rfl rfl rfl (xnm_no rfl) ?_
    refine e_getI rfl rfl rfl rfl (xnm_no rfl) ?_
    obtain ⟨w1, hw2, h⟩ := xbd_some h
    refine e_cIV (hc := hw2) (rest := []) rfl rfl rfl rfl rfl rfl rfl rfl (xnm_no rfl) ?_
    refine e_if_eq (t := 63) rfl rfl rfl (xnm_no rfl) h (fun h => ?_) (fun h => ?_)
    · exact xlfI h
    · refine e_aload_n rfl rfl rfl (xnm_no rfl) ?_
      refine e_dup rfl rfl (xnm_no rfl) ?_
      refine e_getI rfl rfl rfl rfl (xnm_no rfl) ?_
      refine e_iconst (x := 1) rfl (by decide) (xnm_no rfl) ?_
      refine e_iadd rfl (xnm_no rfl) ?_
      refine e_putI rfl rfl rfl rfl (xnm_no rfl) ?_
      replace h := xlt_b h
      refine e_iinc (y := 1) rfl rfl rfl (by decide) (xnm_no rfl) ?_
      refine e_goto (t := 29) rfl rfl rfl ?_
      exact xlfI h
set_option maxRecDepth 4000 in
theorem bX7_scan_1_133_i (v1 : Int32) (m : xmm) {z : Int32 × xmm} (h : (if ((m.1 1 9) - v1) ≤ (4 : Int32) then some ((2 : Int32), m) else some ((8 : Int32), m)) = some z) : bX7_scan_1_133 v1 m = some z := by
  refine xstI ?_
  show xT 78 6 133 [(0, .ref 1), (1, .int v1)] [] m (some (.int z.1), z.2)
  refine e_aload_n rfl rfl rfl (xnm_no rfl) ?_
  refine e_getI rfl rfl rfl rfl (xnm_no rfl) ?_
  refine e_iload_n rfl rfl (xnm_no rfl) ?_
  refine e_isub rfl (xnm_no rfl) ?_
  refine e_iconst (x := 4) rfl (by decide) (xnm_no rfl) ?_
  refine e_icmp_le (t := 148) rfl rfl (xnm_no rfl) (xnm_no rfl) h (fun h => ?_) (fun h => ?_)
  · refine e_iconst (x := 2) rfl (by decide) (xnm_no rfl) ?_
    cases h
    exact e_retI rfl rfl
  · refine e_bipush (x := 8) rfl (by decide) (xnm_no rfl) ?_
    refine e_goto (t := 149) rfl rfl (xnm_no rfl) ?_
    cases h
    exact e_retI rfl rfl
set_option maxRecDepth 4000 in
theorem bX7_scan_1_63_i (v1 : Int32) (m : xmm) {z : Int32 × xmm} (h : (if ((m.1 1 9) - v1) ≤ (8 : Int32) then (fX7_wordKind_1 v1 (m.1 1 9) m).bind fun (w1 : Int32 × xmm) => some (w1.1, w1.2) else some ((8 : Int32), m)) = some z) : bX7_scan_1_63 v1 m = some z := by
  refine xstI ?_
  show xT 78 6 63 [(0, .ref 1), (1, .int v1)] [] m (some (.int z.1), z.2)
  refine e_aload_n rfl rfl rfl (xnm_no rfl) ?_
  refine e_getI rfl rfl rfl rfl (xnm_no rfl) ?_
  refine e_iload_n rfl rfl (xnm_no rfl) ?_
  refine e_isub rfl (xnm_no rfl) ?_
  refine e_bipush (x := 8) rfl (by decide) (xnm_no rfl) ?_
  refine e_icmp_le (t := 79) rfl rfl (xnm_no rfl) (xnm_no rfl) h (fun h => ?_) (fun h => ?_)
  · refine e_aload_n rfl rfl rfl (xnm_no rfl) ?_
    refine e_iload_n rfl rfl (xnm_no rfl) ?_
    refine e_aload_n rfl rfl rfl (xnm_no rfl) ?_
    refine e_getI rfl rfl rfl rfl (xnm_no rfl) ?_
    obtain ⟨w1, hw2, h⟩ := xbd_some h
    refine e_cIV (hc := hw2) (rest := []) rfl rfl rfl rfl rfl rfl rfl rfl (xnm_no rfl) ?_
    cases h
    exact e_retI rfl rfl
  · refine e_bipush (x := 8) rfl (by decide) (xnm_no rfl) ?_
    refine e_goto (t := 88) rfl rfl (xnm_no rfl) ?_
    cases h
    exact e_retI rfl rfl
set_option maxRecDepth 4000 in
theorem fX7_follow_i (v0 : Int32) (v1 : Int32) (m : xmm) {z : Int32 × xmm} (h : (if v0 = 0 then if v1 = (4 : Int32) then some ((1 : Int32), m) else some ((8 : Int32), m) else if v0 = 1 then if v1 = (1 : Int32) then some ((1 : Int32), m) else if v1 = (3 : Int32) then some ((2 : Int32), m) else some ((8 : Int32), m) else if v0 = 2 then if v1 = (5 : Int32) then some ((3 : Int32), m) else if v1 = (6 : Int32) then some ((3 : Int32), m) else if v1 = (7 : Int32) then some ((6 : Int32), m) else some ((8 : Int32), m) else if v0 = 3 then if v1 = (1 : Int32) then some ((4 : Int32), m) else some ((8 : Int32), m) else if v0 = 4 then if v1 = (1 : Int32) then some ((5 : Int32), m) else some ((8 : Int32), m) else if v0 = 5 then if v1 = (1 : Int32) then some ((5 : Int32), m) else if v1 = (3 : Int32) then some ((2 : Int32), m) else some ((8 : Int32), m) else if v0 = 6 then if v1 = (2 : Int32) then some ((7 : Int32), m) else some ((8 : Int32), m) else if v0 = 7 then if v1 = (2 : Int32) then some ((7 : Int32), m) else if v1 = (3 : Int32) then some ((2 : Int32), m) else some ((8 : Int32), m) else some ((8 : Int32), m)) = some z) : fX7_follow v0 v1 m = some z := by
  refine xstI ?_
  show xT 76 0 0 [(0, .int v0), (1, .int v1)] [] m (some (.int z.1), z.2)
  refine e_iload_n rfl rfl (xnm_no rfl) ?_
  by_cases c1 : v0 = 0
  · rw [if_pos c1] at h
    refine e_sw (t := 48) (o := 47) rfl (by decide) (xsw_p c1) rfl (xnm_no rfl) ?_
    refine e_iload_n rfl rfl (xnm_no rfl) ?_
    refine e_iconst (x := 4) rfl (by decide) (xnm_no rfl) ?_
    refine e_icmp_ne (t := 57) rfl rfl (xnm_no rfl) (xnm_no rfl) h (fun h => ?_) (fun h => ?_)
    · refine e_bipush (x := 8) rfl (by decide) (xnm_no rfl) ?_
      cases h
      exact e_retI rfl rfl
    · refine e_iconst (x := 1) rfl (by decide) (xnm_no rfl) ?_
      refine e_goto (t := 59) rfl rfl (xnm_no rfl) ?_
      cases h
      exact e_retI rfl rfl
  · rw [if_neg c1] at h
    by_cases c2 : v0 = 1
    · rw [if_pos c2] at h
      refine e_sw (t := 60) (o := 59) rfl (by decide) (xsw_n c1 (xsw_p c2)) rfl (xnm_no rfl) ?_
      refine e_iload_n rfl rfl (xnm_no rfl) ?_
      refine e_iconst (x := 1) rfl (by decide) (xnm_no rfl) ?_
      refine e_icmp_ne (t := 69) rfl rfl (xnm_no rfl) (xnm_no rfl) h (fun h => ?_) (fun h => ?_)
      · refine e_iload_n rfl rfl (xnm_no rfl) ?_
        refine e_iconst (x := 3) rfl (by decide) (xnm_no rfl) ?_
        refine e_icmp_ne (t := 78) rfl rfl (xnm_no rfl) (xnm_no rfl) h (fun h => ?_) (fun h => ?_)
        · refine e_bipush (x := 8) rfl (by decide) (xnm_no rfl) ?_
          cases h
          exact e_retI rfl rfl
        · refine e_iconst (x := 2) rfl (by decide) (xnm_no rfl) ?_
          refine e_goto (t := 80) rfl rfl (xnm_no rfl) ?_
          cases h
          exact e_retI rfl rfl
      · refine e_iconst (x := 1) rfl (by decide) (xnm_no rfl) ?_
        refine e_goto (t := 80) rfl rfl (xnm_no rfl) ?_
        cases h
        exact e_retI rfl rfl
    · rw [if_neg c2] at h
      by_cases c3 : v0 = 2
      · rw [if_pos c3] at h
        refine e_sw (t := 81) (o := 80) rfl (by decide) (xsw_n c1 (xsw_n c2 (xsw_p c3))) rfl (xnm_no rfl) ?_
        refine e_iload_n rfl rfl (xnm_no rfl) ?_
        refine e_iconst (x := 5) rfl (by decide) (xnm_no rfl) ?_
        refine e_icmp_eq (t := 92) rfl rfl (xnm_no rfl) (xnm_no rfl) h (fun h => ?_) (fun h => ?_)
        · refine e_iconst (x := 3) rfl (by decide) (xnm_no rfl) ?_
          refine e_goto (t := 109) rfl rfl (xnm_no rfl) ?_
          cases h
          exact e_retI rfl rfl
        · refine e_iload_n rfl rfl (xnm_no rfl) ?_
          refine e_bipush (x := 6) rfl (by decide) (xnm_no rfl) ?_
          refine e_icmp_ne (t := 96) rfl rfl (xnm_no rfl) (xnm_no rfl) h (fun h => ?_) (fun h => ?_)
          · refine e_iload_n rfl rfl (xnm_no rfl) ?_
            refine e_bipush (x := 7) rfl (by decide) (xnm_no rfl) ?_
            refine e_icmp_ne (t := 107) rfl rfl (xnm_no rfl) (xnm_no rfl) h (fun h => ?_) (fun h => ?_)
            · refine e_bipush (x := 8) rfl (by decide) (xnm_no rfl) ?_
              cases h
              exact e_retI rfl rfl
            · refine e_bipush (x := 6) rfl (by decide) (xnm_no rfl) ?_
              refine e_goto (t := 109) rfl rfl (xnm_no rfl) ?_
              cases h
              exact e_retI rfl rfl
          · refine e_iconst (x := 3) rfl (by decide) (xnm_no rfl) ?_
            refine e_goto (t := 109) rfl rfl (xnm_no rfl) ?_
            cases h
            exact e_retI rfl rfl
      · rw [if_neg c3] at h
        by_cases c4 : v0 = 3
        · rw [if_pos c4] at h
          refine e_sw (t := 110) (o := 109) rfl (by decide) (xsw_n c1 (xsw_n c2 (xsw_n c3 (xsw_p c4)))) rfl (xnm_no rfl) ?_
          refine e_iload_n rfl rfl (xnm_no rfl) ?_
          refine e_iconst (x := 1) rfl (by decide) (xnm_no rfl) ?_
          refine e_icmp_ne (t := 119) rfl rfl (xnm_no rfl) (xnm_no rfl) h (fun h => ?_) (fun h => ?_)
          · refine e_bipush (x := 8) rfl (by decide) (xnm_no rfl) ?_
            cases h
            exact e_retI rfl rfl
          · refine e_iconst (x := 4) rfl (by decide) (xnm_no rfl) ?_
            refine e_goto (t := 121) rfl rfl (xnm_no rfl) ?_
            cases h
            exact e_retI rfl rfl
        · rw [if_neg c4] at h
          by_cases c5 : v0 = 4
          · rw [if_pos c5] at h
            refine e_sw (t := 122) (o := 121) rfl (by decide) (xsw_n c1 (xsw_n c2 (xsw_n c3 (xsw_n c4 (xsw_p c5))))) rfl (xnm_no rfl) ?_
            refine e_iload_n rfl rfl (xnm_no rfl) ?_
            refine e_iconst (x := 1) rfl (by decide) (xnm_no rfl) ?_
            refine e_icmp_ne (t := 131) rfl rfl (xnm_no rfl) (xnm_no rfl) h (fun h => ?_) (fun h => ?_)
            · refine e_bipush (x := 8) rfl (by decide) (xnm_no rfl) ?_
              cases h
              exact e_retI rfl rfl
            · refine e_iconst (x := 5) rfl (by decide) (xnm_no rfl) ?_
              refine e_goto (t := 133) rfl rfl (xnm_no rfl) ?_
              cases h
              exact e_retI rfl rfl
          · rw [if_neg c5] at h
            by_cases c6 : v0 = 5
            · rw [if_pos c6] at h
              refine e_sw (t := 134) (o := 133) rfl (by decide) (xsw_n c1 (xsw_n c2 (xsw_n c3 (xsw_n c4 (xsw_n c5 (xsw_p c6)))))) rfl (xnm_no rfl) ?_
              refine e_iload_n rfl rfl (xnm_no rfl) ?_
              refine e_iconst (x := 1) rfl (by decide) (xnm_no rfl) ?_
              refine e_icmp_ne (t := 143) rfl rfl (xnm_no rfl) (xnm_no rfl) h (fun h => ?_) (fun h => ?_)
              · refine e_iload_n rfl rfl (xnm_no rfl) ?_
                refine e_iconst (x := 3) rfl (by decide) (xnm_no rfl) ?_
                refine e_icmp_ne (t := 152) rfl rfl (xnm_no rfl) (xnm_no rfl) h (fun h => ?_) (fun h => ?_)
                · refine e_bipush (x := 8) rfl (by decide) (xnm_no rfl) ?_
                  cases h
                  exact e_retI rfl rfl
                · refine e_iconst (x := 2) rfl (by decide) (xnm_no rfl) ?_
                  refine e_goto (t := 154) rfl rfl (xnm_no rfl) ?_
                  cases h
                  exact e_retI rfl rfl
              · refine e_iconst (x := 5) rfl (by decide) (xnm_no rfl) ?_
                refine e_goto (t := 154) rfl rfl (xnm_no rfl) ?_
                cases h
                exact e_retI rfl rfl
            · rw [if_neg c6] at h
              by_cases c7 : v0 = 6
              · rw [if_pos c7] at h
                refine e_sw (t := 155) (o := 154) rfl (by decide) (xsw_n c1 (xsw_n c2 (xsw_n c3 (xsw_n c4 (xsw_n c5 (xsw_n c6 (xsw_p c7))))))) rfl (xnm_no rfl) ?_
                refine e_iload_n rfl rfl (xnm_no rfl) ?_
                refine e_iconst (x := 2) rfl (by decide) (xnm_no rfl) ?_
                refine e_icmp_ne (t := 165) rfl rfl (xnm_no rfl) (xnm_no rfl) h (fun h => ?_) (fun h => ?_)
                · refine e_bipush (x := 8) rfl (by decide) (xnm_no rfl) ?_
                  cases h
                  exact e_retI rfl rfl
                · refine e_bipush (x := 7) rfl (by decide) (xnm_no rfl) ?_
                  refine e_goto (t := 167) rfl rfl (xnm_no rfl) ?_
                  cases h
                  exact e_retI rfl rfl
              · rw [if_neg c7] at h
                by_cases c8 : v0 = 7
                · rw [if_pos c8] at h
                  refine e_sw (t := 168) (o := 167) rfl (by decide) (xsw_n c1 (xsw_n c2 (xsw_n c3 (xsw_n c4 (xsw_n c5 (xsw_n c6 (xsw_n c7 (xsw_p c8)))))))) rfl (xnm_no rfl) ?_
                  refine e_iload_n rfl rfl (xnm_no rfl) ?_
                  refine e_iconst (x := 2) rfl (by decide) (xnm_no rfl) ?_
                  refine e_icmp_ne (t := 178) rfl rfl (xnm_no rfl) (xnm_no rfl) h (fun h => ?_) (fun h => ?_)
                  · refine e_iload_n rfl rfl (xnm_no rfl) ?_
                    refine e_iconst (x := 3) rfl (by decide) (xnm_no rfl) ?_
                    refine e_icmp_ne (t := 187) rfl rfl (xnm_no rfl) (xnm_no rfl) h (fun h => ?_) (fun h => ?_)
                    · refine e_bipush (x := 8) rfl (by decide) (xnm_no rfl) ?_
                      cases h
                      exact e_retI rfl rfl
                    · refine e_iconst (x := 2) rfl (by decide) (xnm_no rfl) ?_
                      refine e_goto (t := 189) rfl rfl (xnm_no rfl) ?_
                      cases h
                      exact e_retI rfl rfl
                  · refine e_bipush (x := 7) rfl (by decide) (xnm_no rfl) ?_
                    refine e_goto (t := 189) rfl rfl (xnm_no rfl) ?_
                    cases h
                    exact e_retI rfl rfl
                · rw [if_neg c8] at h
                  refine e_sw (t := 190) (o := 189) rfl (by decide) (xsw_n c1 (xsw_n c2 (xsw_n c3 (xsw_n c4 (xsw_n c5 (xsw_n c6 (xsw_n c7 (xsw_n c8 xsw_d)))))))) rfl (xnm_no rfl) ?_
                  refine e_bipush (x := 8) rfl (by decide) (xnm_no rfl) ?_
                  cases h
                  exact e_retI rfl rfl
