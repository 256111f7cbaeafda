set_option maxRecDepth 4000 in
theorem fX4_keep_14_10_i (m : xmm) {z : xmm} (h : (xgd (xinb 40 (m.1 14 1)) (xgr (xR0 15 ((m.1 14 1)).toNatClampNeg) fun r2 => (fX3_copyFrom r2 10 m).bind fun (w4 : xmm) => xgd (xob r2 3) (xlt (xwi w4 14 1 (((w4.1 14 1) + (1 : Int32)) - ((w4.1 14 1) + (1 : Int32)) / (40 : Int32) * (40 : Int32))) fun (m7 : xmm) => xlt (xwi m7 14 2 (if (40 : Int32) < ((m7.1 14 2) + (1 : Int32)) then (40 : Int32) else ((m7.1 14 2) + (1 : Int32)))) fun (m8 : xmm) => some m8))) = some z) : fX4_keep_14_10 m = some z := by
  refine xstV ?_
  show xT 39 1 0 [(0, .ref 14), (1, .ref 10)] [] m (none, z)
  refine e_aload_n rfl rfl rfl (xnm_no rfl) ?_
  refine e_getR (r := 15) rfl rfl rfl rfl rfl (xnm_no rfl) ?_
  refine e_aload_n rfl rfl rfl (xnm_no rfl) ?_
  refine e_getI rfl rfl rfl rfl (xnm_no rfl) ?_
  obtain ⟨g1, h⟩ := xgd_some h
  obtain ⟨r2, hr3, h⟩ := xgr_some h
  refine e_aald rfl g1 rfl hr3 (xnm_no rfl) ?_
  refine e_aload_n rfl rfl rfl (xnm_no rfl) ?_
  obtain ⟨w4, hw5, h⟩ := xbd_some h
  obtain ⟨g6, h⟩ := xgd_some h
  refine e_cVV (hc := hw5) (rest := []) rfl rfl rfl rfl rfl (xorb g6) rfl rfl (xnm_no rfl) ?_
  refine e_aload_n rfl rfl rfl (xnm_no rfl) ?_
  refine e_aload_n rfl rfl rfl (xnm_no rfl) ?_
  refine e_getI rfl rfl rfl rfl (xnm_no rfl) ?_
  refine e_iconst (x := 1) rfl (by decide) (xnm_no rfl) ?_
  refine e_iadd rfl (xnm_no rfl) ?_
  refine e_bipush (x := 40) rfl (by decide) (xnm_no rfl) ?_
  refine e_irem rfl (by decide) (xnm_no rfl) ?_
  refine e_putI rfl rfl rfl rfl (xnm_no rfl) ?_
  replace h := xlt_b h
  refine e_aload_n rfl rfl rfl (xnm_no rfl) ?_
  refine e_aload_n rfl rfl rfl (xnm_no rfl) ?_
  refine e_getI rfl rfl rfl rfl (xnm_no rfl) ?_
  refine e_iconst (x := 1) rfl (by decide) (xnm_no rfl) ?_
  refine e_iadd rfl (xnm_no rfl) ?_
  refine e_bipush (x := 40) rfl (by decide) (xnm_no rfl) ?_
  refine e_min rfl rfl rfl (xnm_no rfl) ?_
  refine e_putI rfl rfl rfl rfl (xnm_no rfl) ?_
  replace h := xlt_b h
  cases h
  exact e_retV rfl rfl
set_option maxRecDepth 4000 in
theorem fX11_beforeChange_0_i (m : xmm) {z : xmm} (h : ((fX4_keep_14_10 m).bind fun (w1 : xmm) => xlt (xwi w1 0 6 (0 : Int32)) fun (m3 : xmm) => some m3) = some z) : fX11_beforeChange_0 m = some z := by
  refine xstV ?_
  show xT 148 2 0 [(0, .ref 0)] [] m (none, z)
  refine e_aload_n rfl rfl rfl (xnm_no rfl) ?_
  refine e_getR (r := 14) rfl rfl rfl rfl rfl (xnm_no rfl) ?_
  refine e_aload_n rfl rfl rfl (xnm_no rfl) ?_
  refine e_getR (r := 10) rfl rfl rfl rfl rfl (xnm_no rfl) ?_
  obtain ⟨w1, hw2, h⟩ := xbd_some h
  refine e_cVV (hc := hw2) (rest := []) rfl rfl rfl rfl rfl rfl rfl rfl (xnm_no rfl) ?_
  refine e_aload_n rfl rfl rfl (xnm_no rfl) ?_
  refine e_iconst (x := 0) rfl (by decide) (xnm_no rfl) ?_
  refine e_putI rfl rfl (by decide) rfl (xnm_no rfl) ?_
  replace h := xlt_b h
  cases h
  exact e_retV rfl rfl
set_option maxRecDepth 4000 in
theorem fX11_other_0_i (m : xmm) {z : Int32 × xmm} (h : ((fX11_beforeChange_0 m).bind fun (w1 : xmm) => (fX3_turnOver 10 w1).bind fun (w3 : xmm) => (fX3_countLines 10 w3).bind fun (w5 : Int32 × xmm) => some (w5.1, w5.2)) = some z) : fX11_other_0 m = some z := by
  refine xstI ?_
  show xT 119 3 0 [(0, .ref 0)] [] m (some (.int z.1), z.2)
  refine e_aload_n rfl rfl rfl (xnm_no rfl) ?_
  obtain ⟨w1, hw2, h⟩ := xbd_some h
  refine e_cVV (hc := hw2) (rest := []) rfl rfl rfl rfl rfl rfl rfl rfl (xnm_no rfl) ?_
  refine e_aload_n rfl rfl rfl (xnm_no rfl) ?_
  refine e_getR (r := 10) rfl rfl rfl rfl rfl (xnm_no rfl) ?_
  obtain ⟨w3, hw4, h⟩ := xbd_some h
  refine e_cVV (hc := hw4) (rest := []) rfl rfl rfl rfl rfl rfl rfl rfl (xnm_no rfl) ?_
  refine e_aload_n rfl rfl rfl (xnm_no rfl) ?_
  refine e_getR (r := 10) rfl rfl rfl rfl rfl (xnm_no rfl) ?_
  obtain ⟨w5, hw6, h⟩ := xbd_some h
  refine e_cIV (hc := hw6) (rest := []) rfl rfl rfl rfl rfl rfl rfl rfl (xnm_no rfl) ?_
  cases h
  exact e_retI rfl rfl
set_option maxRecDepth 4000 in
theorem fX11_restore_0_i (v1 : Int32) (m : xmm) {z : Int32 × xmm} (h : ((fX11_heldIn_0 v1 m).bind fun (w1 : Nat × xmm) => xrc w1.1 (some ((0 : Int32), w1.2)) fun k3 => xgd (!(Nat.beq k3 1999)) ((fX3_copyFrom 10 k3 w1.2).bind fun (w6 : xmm) => xlt (xwi w6 0 6 (0 : Int32)) fun (m8 : xmm) => (fX4_forget_14 m8).bind fun (w9 : xmm) => some ((1 : Int32), w9))) = some z) : fX11_restore_0 v1 m = some z := by
  refine xstI ?_
  show xT 141 2 0 [(0, .ref 0), (1, .int v1)] [] m (some (.int z.1), z.2)
  refine e_aload_n rfl rfl rfl (xnm_no rfl) ?_
  refine e_iload_n rfl rfl (xnm_no rfl) ?_
  obtain ⟨w1, hw2, h⟩ := xbd_some h
  refine e_cRV (hc := hw2) (rest := []) rfl rfl rfl rfl rfl rfl rfl rfl (xnm_no rfl) ?_
  rcases w1 with ⟨_ | k3, m4⟩
  · refine e_astore_nN rfl rfl (xnm_no rfl) ?_
    refine e_aload_nN rfl rfl (xnm_no rfl) ?_
    refine e_nonnullN rfl (xnm_no rfl) ?_
    refine e_iconst (x := 0) rfl (by decide) (xnm_no rfl) ?_
    cases h
    exact e_retI rfl (by decide)
  · obtain ⟨g5, h⟩ := xgd_some h
    refine e_astore_n rfl rfl (xnb g5) (xnm_no rfl) ?_
    refine e_aload_n rfl rfl (xnb g5) (xnm_no rfl) ?_
    refine e_nonnull (t := 12) rfl (xnb g5) rfl (xnm_no rfl) ?_
    refine e_aload_n rfl rfl rfl (xnm_no rfl) ?_
    refine e_getR (r := 10) rfl rfl rfl rfl rfl (xnm_no rfl) ?_
    refine e_aload_n rfl rfl (xnb g5) (xnm_no rfl) ?_
    obtain ⟨w6, hw7, h⟩ := xbd_some h
    refine e_cVV (hc := hw7) (rest := []) rfl rfl rfl rfl rfl rfl rfl rfl (xnm_no rfl) ?_
    refine e_aload_n rfl rfl rfl (xnm_no rfl) ?_
    refine e_iconst (x := 0) rfl (by decide) (xnm_no rfl) ?_
    refine e_putI rfl rfl (by decide) rfl (xnm_no rfl) ?_
    replace h := xlt_b h
    refine e_aload_n rfl rfl rfl (xnm_no rfl) ?_
    refine e_getR (r := 14) rfl rfl rfl rfl rfl (xnm_no rfl) ?_
    obtain ⟨w9, hw10, h⟩ := xbd_some h
    refine e_cVV (hc := hw10) (rest := []) rfl rfl rfl rfl rfl rfl rfl rfl (xnm_no rfl) ?_
    refine e_iconst (x := 1) rfl (by decide) (xnm_no rfl) ?_
    cases h
    exact e_retI rfl (by decide)
set_option maxRecDepth 4000 in
theorem fL_same_i (v0 : Nat) (v1 : Nat) (m : xmm) {z : Int32 × xmm} (h : (bL_same_4 v0 v1 (1 : Int32) (0 : Int32) m) = some z) : fL_same v0 v1 m = some z := by
  refine xstI ?_
  show xT 170 0 0 [(0, .ref v0), (1, .ref v1)] [] m (some (.int z.1), z.2)
  refine e_iconst (x := 1) rfl (by decide) (xnm_no rfl) ?_
  refine e_istore_n rfl rfl (xnm_no rfl) ?_
  refine e_iconst (x := 0) rfl (by decide) (xnm_no rfl) ?_
  refine e_istore_n rfl rfl rfl ?_
  exact xlfI h
set_option maxRecDepth 4000 in
theorem bL_same_4_i (v0 : Nat) (v1 : Nat) (v2 : Int32) (v3 : Int32) (m : xmm) {z : Int32 × xmm} (h : (xgd (!(Nat.beq v0 1999)) (xgd (Nat.ble 144 v0 && Nat.blt (xsg v0) (xctm m)) (if (Int32.ofNat (m.1 1996 v0).toNatClampNeg) ≤ v3 then xgd (xz01 v2) (some (v2, m)) else if v2 = 0 then bL_same_4 v0 v1 (0 : Int32) (v3 + (1 : Int32)) m else xgd (xir m v0 v3) (xgd (!(Nat.beq v1 1999)) (xgd (xir m v1 v3) (if (m.1 v0 (v3).toNatClampNeg) = (m.1 v1 (v3).toNatClampNeg) then bL_same_4 v0 v1 (1 : Int32) (v3 + (1 : Int32)) m else bL_same_4 v0 v1 (0 : Int32) (v3 + (1 : Int32)) m)))))) = some z) : bL_same_4 v0 v1 v2 v3 m = some z := by
  refine xstI ?_
  show xT 170 0 4 [(0, .ref v0), (1, .ref v1), (2, .int v2), (3, .int v3)] [] m (some (.int z.1), z.2)
  refine e_iload_n rfl rfl (xnm_no rfl) ?_
  obtain ⟨g1, h⟩ := xgd_some h
  refine e_aload_n rfl rfl (xnb g1) (xnm_no rfl) ?_
  obtain ⟨g2, h⟩ := xgd_some h
  refine e_ralen rfl g2 (xnm_no rfl) ?_
  refine e_icmp_ge (t := 35) rfl rfl (xnm_no rfl) (xnm_no rfl) h (fun h => ?_) (fun h => ?_)
  · refine e_iload_n rfl rfl (xnm_no rfl) ?_
    obtain ⟨g3, h⟩ := xgd_some h
    cases h
    exact e_retI rfl g3
  · refine e_iload_n rfl rfl (xnm_no rfl) ?_
    refine e_if_eq (t := 27) rfl rfl (xnm_no rfl) (xnm_no rfl) h (fun h => ?_) (fun h => ?_)
    · refine e_iconst (x := 0) rfl (by decide) (xnm_no rfl) ?_
      refine e_istore_n rfl rfl (xnm_no rfl) ?_
      refine e_iinc (y := 1) rfl rfl rfl (by decide) (xnm_no rfl) ?_
      refine e_goto (t := 4) rfl rfl rfl ?_
      exact xlfI h
    · refine e_aload_n rfl rfl (xnb g1) (xnm_no rfl) ?_
      refine e_iload_n rfl rfl (xnm_no rfl) ?_
      obtain ⟨g4, h⟩ := xgd_some h
      refine e_rald rfl g4 (xnm_no rfl) ?_
      obtain ⟨g5, h⟩ := xgd_some h
      refine e_aload_n rfl rfl (xnb g5) (xnm_no rfl) ?_
      refine e_iload_n rfl rfl (xnm_no rfl) ?_
      obtain ⟨g6, h⟩ := xgd_some h
      refine e_rald rfl g6 (xnm_no rfl) ?_
      refine e_icmp_ne (t := 27) rfl rfl (xnm_no rfl) (xnm_no rfl) h (fun h => ?_) (fun h => ?_)
      · refine e_iconst (x := 0) rfl (by decide) (xnm_no rfl) ?_
        refine e_istore_n rfl rfl (xnm_no rfl) ?_
        refine e_iinc (y := 1) rfl rfl rfl (by decide) (xnm_no rfl) ?_
        refine e_goto (t := 4) rfl rfl rfl ?_
        exact xlfI h
      · refine e_iconst (x := 1) rfl (by decide) (xnm_no rfl) ?_
        refine e_goto (t := 28) rfl rfl (xnm_no rfl) ?_
        refine e_istore_n rfl rfl (xnm_no rfl) ?_
        refine e_iinc (y := 1) rfl rfl rfl (by decide) (xnm_no rfl) ?_
        refine e_goto (t := 4) rfl rfl rfl ?_
        exact xlfI h
set_option maxRecDepth 4000 in
theorem fX11_begin_0_i (m : xmm) {z : Int32 × xmm} (h : ((fX11_beforeChange_0 m).bind fun (w1 : xmm) => if (w1.1 10 1) = 0 then xlt (xwi w1 10 1 (1 : Int32)) fun (m5 : xmm) => xgd (xz01 (m5.1 10 1)) (some ((m5.1 10 1), m5)) else xlt (xwi w1 10 1 (0 : Int32)) fun (m3 : xmm) => xgd (xz01 (m3.1 10 1)) (some ((m3.1 10 1), m3))) = some z) : fX11_begin_0 m = some z := by
  refine xstI ?_
  show xT 122 3 0 [(0, .ref 0)] [] m (some (.int z.1), z.2)
  refine e_aload_n rfl rfl rfl (xnm_no rfl) ?_
  obtain ⟨w1, hw2, h⟩ := xbd_some h
  refine e_cVV (hc := hw2) (rest := []) rfl rfl rfl rfl rfl rfl rfl rfl (xnm_no rfl) ?_
  refine e_aload_n rfl rfl rfl (xnm_no rfl) ?_
  refine e_getR (r := 10) rfl rfl rfl rfl rfl (xnm_no rfl) ?_
  refine e_aload_n rfl rfl rfl (xnm_no rfl) ?_
  refine e_getR (r := 10) rfl rfl rfl rfl rfl (xnm_no rfl) ?_
  refine e_getI rfl rfl rfl rfl (xnm_no rfl) ?_
  refine e_if_ne (t := 22) rfl rfl (xnm_no rfl) (xnm_no rfl) h (fun h => ?_) (fun h => ?_)
  · refine e_iconst (x := 0) rfl (by decide) (xnm_no rfl) ?_
    refine e_putI rfl rfl (by decide) rfl (xnm_no rfl) ?_
    replace h := xlt_b h
    refine e_aload_n rfl rfl rfl (xnm_no rfl) ?_
    refine e_getR (r := 10) rfl rfl rfl rfl rfl (xnm_no rfl) ?_
    refine e_getI rfl rfl rfl rfl (xnm_no rfl) ?_
    obtain ⟨g4, h⟩ := xgd_some h
    cases h
    exact e_retI rfl g4
  · refine e_iconst (x := 1) rfl (by decide) (xnm_no rfl) ?_
    refine e_goto (t := 23) rfl rfl (xnm_no rfl) ?_
    refine e_putI rfl rfl (by decide) rfl (xnm_no rfl) ?_
    replace h := xlt_b h
    refine e_aload_n rfl rfl rfl (xnm_no rfl) ?_
    refine e_getR (r := 10) rfl rfl rfl rfl rfl (xnm_no rfl) ?_
    refine e_getI rfl rfl rfl rfl (xnm_no rfl) ?_
    obtain ⟨g6, h⟩ := xgd_some h
    cases h
    exact e_retI rfl g6
set_option maxRecDepth 4000 in
theorem fX3_flip_i (v0 : Nat) (v1 : Int32) (v2 : Int32) (m : xmm) {z : xmm} (h : (xgd (!(Nat.beq v0 1999)) ((fX3_hasPair v0 v1 v2 m).bind fun (w2 : Int32 × xmm) => xgd (xob v0 3) (if w2.1 = 0 then some w2.2 else xgr (xR0 v0 2) fun r5 => xgd (xia 1 r5 v1) (xlt (xwi w2.2 r5 (v1).toNatClampNeg ((w2.2.1 r5 (v1).toNatClampNeg) ^^^ ((1 : Int32) <<< (v2 &&& 31)))) fun (m8 : xmm) => xgd (xia 1 r5 v2) (xlt (xwi m8 r5 (v2).toNatClampNeg ((m8.1 r5 (v2).toNatClampNeg) ^^^ ((1 : Int32) <<< (v1 &&& 31)))) fun (m10 : xmm) => some m10))))) = some z) : fX3_flip v0 v1 v2 m = some z := by
  refine xstV ?_
  show xT 34 2 0 [(0, .ref v0), (1, .int v1), (2, .int v2)] [] m (none, z)
  obtain ⟨g1, h⟩ := xgd_some h
  refine e_aload_n rfl rfl (xnb g1) (xnm_no rfl) ?_
  refine e_iload_n rfl rfl (xnm_no rfl) ?_
  refine e_iload_n rfl rfl (xnm_no rfl) ?_
  obtain ⟨w2, hw3, h⟩ := xbd_some h
  obtain ⟨g4, h⟩ := xgd_some h
  refine e_cIV (hc := hw3) (rest := []) rfl rfl rfl rfl rfl (xorb g4) rfl rfl (xnm_no rfl) ?_
  refine e_if_eq (t := 33) rfl rfl (xnm_no rfl) (xnm_no rfl) h (fun h => ?_) (fun h => ?_)
  · cases h
    exact e_retV rfl rfl
  · refine e_aload_n rfl rfl (xnb g1) (xnm_no rfl) ?_
    obtain ⟨r5, hr6, h⟩ := xgr_some h
    refine e_getR rfl rfl rfl g4 hr6 (xnm_no rfl) ?_
    refine e_iload_n rfl rfl (xnm_no rfl) ?_
    refine e_dup2 rfl rfl rfl (xnm_no rfl) ?_
    obtain ⟨g7, h⟩ := xgd_some h
    refine e_iald rfl g7 (xnm_no rfl) ?_
    refine e_iconst (x := 1) rfl (by decide) (xnm_no rfl) ?_
    refine e_iload_n rfl rfl (xnm_no rfl) ?_
    refine e_ishl rfl (xnm_no rfl) ?_
    refine e_ixor rfl (xnm_no rfl) ?_
    refine e_iast rfl g7 (xnm_no rfl) ?_
    replace h := xlt_b h
    refine e_aload_n rfl rfl (xnb g1) (xnm_no rfl) ?_
    refine e_getR rfl rfl rfl g4 hr6 (xnm_no rfl) ?_
    refine e_iload_n rfl rfl (xnm_no rfl) ?_
    refine e_dup2 rfl rfl rfl (xnm_no rfl) ?_
    obtain ⟨g9, h⟩ := xgd_some h
    refine e_iald rfl g9 (xnm_no rfl) ?_
    refine e_iconst (x := 1) rfl (by decide) (xnm_no rfl) ?_
    refine e_iload_n rfl rfl (xnm_no rfl) ?_
    refine e_ishl rfl (xnm_no rfl) ?_
    refine e_ixor rfl (xnm_no rfl) ?_
    refine e_iast rfl g9 (xnm_no rfl) ?_
    replace h := xlt_b h
    cases h
    exact e_retV rfl rfl
set_option maxRecDepth 4000 in
theorem fX3_swap_i (v0 : Nat) (v1 : Int32) (v2 : Int32) (m : xmm) {z : xmm} (h : (xgd (!(Nat.beq v0 1999)) ((fX3_hasPair v0 v1 v2 m).bind fun (w2 : Int32 × xmm) => xgd (xob v0 3) (if w2.1 = 0 then some w2.2 else bX3_swap_12 v0 v1 v2 (0 : Int32) w2.2))) = some z) : fX3_swap v0 v1 v2 m = some z := by
  refine xstV ?_
  show xT 36 3 0 [(0, .ref v0), (1, .int v1), (2, .int v2)] [] m (none, z)
  obtain ⟨g1, h⟩ := xgd_some h
  refine e_aload_n rfl rfl (xnb g1) (xnm_no rfl) ?_
  refine e_iload_n rfl rfl (xnm_no rfl) ?_
  refine e_iload_n rfl rfl (xnm_no rfl) ?_
  obtain ⟨w2, hw3, h⟩ := xbd_some h
  obtain ⟨g4, h⟩ := xgd_some h
  refine e_cIV (hc := hw3) (rest := []) rfl rfl rfl rfl rfl (xorb g4) rfl rfl (xnm_no rfl) ?_
  refine e_if_ne (t := 10) rfl rfl (xnm_no rfl) (xnm_no rfl) h (fun h => ?_) (fun h => ?_)
  · refine e_iconst (x := 0) rfl (by decide) (xnm_no rfl) ?_
    refine e_istore_n rfl rfl rfl ?_
    exact xlfV h
  · cases h
    exact e_retV rfl rfl
set_option maxRecDepth 4000 in
theorem bX3_swap_12_i (v0 : Nat) (v1 : Int32) (v2 : Int32) (v3 : Int32) (m : xmm) {z : xmm} (h : (xgd (!(Nat.beq v0 1999)) (xgd (xob v0 3) (if (m.1 v0 0) ≤ v3 then some m else if v3 = v1 then bX3_swap_12 v0 v1 v2 (v3 + (1 : Int32)) m else if v3 = v2 then bX3_swap_12 v0 v1 v2 (v3 + (1 : Int32)) m else (fX3_hasLine v0 v1 v3 m).bind fun (w3 : Int32 × xmm) => (fX3_hasLine v0 v2 v3 w3.2).bind fun (w5 : Int32 × xmm) => if w3.1 = w5.1 then bX3_swap_12 v0 v1 v2 (v3 + (1 : Int32)) w5.2 else (fX3_flip v0 v1 v3 w5.2).bind fun (w7 : xmm) => (fX3_flip v0 v2 v3 w7).bind fun (w9 : xmm) => bX3_swap_12 v0 v1 v2 (v3 + (1 : Int32)) w9))) = some z) : bX3_swap_12 v0 v1 v2 v3 m = some z := by
  refine xstV ?_
  show xT 36 3 12 [(0, .ref v0), (1, .int v1), (2, .int v2), (3, .int v3)] [] m (none, z)
  refine e_iload_n rfl rfl (xnm_no rfl) ?_
  obtain ⟨g1, h⟩ := xgd_some h
  refine e_aload_n rfl rfl (xnb g1) (xnm_no rfl) ?_
  obtain ⟨g2, h⟩ := xgd_some h
  refine e_getI rfl rfl rfl g2 (xnm_no rfl) ?_
  refine e_icmp_ge (t := 63) rfl rfl (xnm_no rfl) (xnm_no rfl) h (fun h => ?_) (fun h => ?_)
  · cases h
    exact e_retV rfl rfl
  · refine e_iload_n rfl rfl (xnm_no rfl) ?_
    refine e_iload_n rfl rfl (xnm_no rfl) ?_
    refine e_icmp_eq (t := 57) rfl rfl (xnm_no rfl) (xnm_no rfl) h (fun h => ?_) (fun h => ?_)
    · refine e_iinc (y := 1) rfl rfl rfl (by decide) (xnm_no rfl) ?_
      refine e_goto (t := 12) rfl rfl rfl ?_
      exact xlfV h
    · refine e_iload_n rfl rfl (xnm_no rfl) ?_
      refine e_iload_n rfl rfl (xnm_no rfl) ?_
      refine e_icmp_eq (t := 57) rfl rfl (xnm_no rfl) (xnm_no rfl) h (fun h => ?_) (fun h => ?_)
      · refine e_iinc (y := 1) rfl rfl rfl (by decide) (xnm_no rfl) ?_
        refine e_goto (t := 12) rfl rfl rfl ?_
        exact xlfV h
      · refine e_aload_n rfl rfl (xnb g1) (xnm_no rfl) ?_
        refine e_iload_n rfl rfl (xnm_no rfl) ?_
        refine e_iload_n rfl rfl (xnm_no rfl) ?_
        obtain ⟨w3, hw4, h⟩ := xbd_some h
        refine e_cIV (hc := hw4) (rest := []) rfl rfl rfl rfl rfl (xorb g2) rfl rfl (xnm_no rfl) ?_
        refine e_aload_n rfl rfl (xnb g1) (xnm_no rfl) ?_
        refine e_iload_n rfl rfl (xnm_no rfl) ?_
        refine e_iload_n rfl rfl (xnm_no rfl) ?_
        obtain ⟨w5, hw6, h⟩ := xbd_some h
        refine e_cIV (hc := hw6) (rest := [.int _]) rfl rfl rfl rfl rfl (xorb g2) rfl rfl (xnm_no rfl) ?_
        refine e_icmp_eq (t := 57) rfl rfl (xnm_no rfl) (xnm_no rfl) h (fun h => ?_) (fun h => ?_)
        · refine e_iinc (y := 1) rfl rfl rfl (by decide) (xnm_no rfl) ?_
          refine e_goto (t := 12) rfl rfl rfl ?_
          exact xlfV h
        · refine e_aload_n rfl rfl (xnb g1) (xnm_no rfl) ?_
          refine e_iload_n rfl rfl (xnm_no rfl) ?_
          refine e_iload_n rfl rfl (xnm_no rfl) ?_
          obtain ⟨w7, hw8, h⟩ := xbd_some h
          refine e_cVV (hc := hw8) (rest := []) rfl rfl rfl rfl rfl (xorb g2) rfl rfl (xnm_no rfl) ?_
          refine e_aload_n rfl rfl (xnb g1) (xnm_no rfl) ?_
          refine e_iload_n rfl rfl (xnm_no rfl) ?_
          refine e_iload_n rfl rfl (xnm_no rfl) ?_
          obtain ⟨w9, hw10, h⟩ := xbd_some h
          refine e_cVV (hc := hw10) (rest := []) rfl rfl rfl rfl rfl (xorb g2) rfl rfl (xnm_no rfl) ?_
          refine e_iinc (y := 1) rfl rfl rfl (by decide) (xnm_no rfl) ?_
          refine e_goto (t := 12) rfl rfl rfl ?_
          exact xlfV h
set_option maxRecDepth 4000 in
theorem fX11_exchange_0_i (v1 : Int32) (v2 : Int32) (m : xmm) {z : Int32 × xmm} (h : ((fX3_hasPair 10 v1 v2 m).bind fun (w1 : Int32 × xmm) => if w1.1 = 0 then some ((0 : Int32), w1.2) else (fX11_beforeChange_0 w1.2).bind fun (w3 : xmm) => (fX3_swap 10 v1 v2 w3).bind fun (w5 : xmm) => some ((1 : Int32), w5)) = some z) : fX11_exchange_0 v1 v2 m = some z := by
  refine xstI ?_
  show xT 120 4 0 [(0, .ref 0), (1, .int v1), (2, .int v2)] [] m (some (.int z.1), z.2)
  refine e_aload_n rfl rfl rfl (xnm_no rfl) ?_
  refine e_getR (r := 10) rfl rfl rfl rfl rfl (xnm_no rfl) ?_
  refine e_iload_n rfl rfl (xnm_no rfl) ?_
  refine e_iload_n rfl rfl (xnm_no rfl) ?_
  obtain ⟨w1, hw2, h⟩ := xbd_some h
  refine e_cIV (hc := hw2) (rest := []) rfl rfl rfl rfl rfl rfl rfl rfl (xnm_no rfl) ?_
  refine e_if_ne (t := 14) rfl rfl (xnm_no rfl) (xnm_no rfl) h (fun h => ?_) (fun h => ?_)
  · refine e_aload_n rfl rfl rfl (xnm_no rfl) ?_
    obtain ⟨w3, hw4, h⟩ := xbd_some h
    refine e_cVV (hc := hw4) (rest := []) rfl rfl rfl rfl rfl rfl rfl rfl (xnm_no rfl) ?_
    refine e_aload_n rfl rfl rfl (xnm_no rfl) ?_
    refine e_getR (r := 10) rfl rfl rfl rfl rfl (xnm_no rfl) ?_
    refine e_iload_n rfl rfl (xnm_no rfl) ?_
    refine e_iload_n rfl rfl (xnm_no rfl) ?_
    obtain ⟨w5, hw6, h⟩ := xbd_some h
    refine e_cVV (hc := hw6) (rest := []) rfl rfl rfl rfl rfl rfl rfl rfl (xnm_no rfl) ?_
    refine e_iconst (x := 1) rfl (by decide) (xnm_no rfl) ?_
    cases h
    exact e_retI rfl (by decide)
  · refine e_iconst (x := 0) rfl (by decide) (xnm_no rfl) ?_
    cases h
    exact e_retI rfl (by decide)
set_option maxRecDepth 4000 in
theorem fX3_strip_i (v0 : Nat) (v1 : Int32) (m : xmm) {z : xmm} (h : (bX3_strip_2 v0 v1 (0 : Int32) m) = some z) : fX3_strip v0 v1 m = some z := by
  refine xstV ?_
  show xT 37 3 0 [(0, .ref v0), (1, .int v1)] [] m (none, z)
  refine e_iconst (x := 0) rfl (by decide) (xnm_no rfl) ?_
  refine e_istore_n rfl rfl rfl ?_
  exact xlfV h
set_option maxRecDepth 4000 in
theorem bX3_strip_2_i (v0 : Nat) (v1 : Int32) (v2 : Int32) (m : xmm) {z : xmm} (h : (xgd (!(Nat.beq v0 1999)) (xgd (xob v0 3) (if (m.1 v0 0) ≤ v2 then some m else (fX3_hasLine v0 v1 v2 m).bind fun (w3 : Int32 × xmm) => if w3.1 = 0 then bX3_strip_2 v0 v1 (v2 + (1 : Int32)) w3.2 else (fX3_flip v0 v1 v2 w3.2).bind fun (w5 : xmm) => bX3_strip_2 v0 v1 (v2 + (1 : Int32)) w5))) = some z) : bX3_strip_2 v0 v1 v2 m = some z := by
  refine xstV ?_
  show xT 37 3 2 [(0, .ref v0), (1, .int v1), (2, .int v2)] [] m (none, z)
  refine e_iload_n rfl rfl (xnm_no rfl) ?_
  obtain ⟨g1, h⟩ := xgd_some h
  refine e_aload_n rfl rfl (xnb g1) (xnm_no rfl) ?_
  obtain ⟨g2, h⟩ := xgd_some h
  refine e_getI rfl rfl rfl g2 (xnm_no rfl) ?_
  refine e_icmp_ge (t := 31) rfl rfl (xnm_no rfl) (xnm_no rfl) h (fun h => ?_) (fun h => ?_)
  · cases h
    exact e_retV rfl rfl
  · refine e_aload_n rfl rfl (xnb g1) (xnm_no rfl) ?_
    refine e_iload_n rfl rfl (xnm_no rfl) ?_
    refine e_iload_n rfl rfl (xnm_no rfl) ?_
    obtain ⟨w3, hw4, h⟩ := xbd_some h
    refine e_cIV (hc := hw4) (rest := []) rfl rfl rfl rfl rfl (xorb g2) rfl rfl (xnm_no rfl) ?_
    refine e_if_eq (t := 25) rfl rfl (xnm_no rfl) (xnm_no rfl) h (fun h => ?_) (fun h => ?_)
    · refine e_iinc (y := 1) rfl rfl rfl (by decide) (xnm_no rfl) ?_
      refine e_goto (t := 2) rfl rfl rfl ?_
      exact xlfV h
    · refine e_aload_n rfl rfl (xnb g1) (xnm_no rfl) ?_
      refine e_iload_n rfl rfl (xnm_no rfl) ?_
      refine e_iload_n rfl rfl (xnm_no rfl) ?_
      obtain ⟨w5, hw6, h⟩ := xbd_some h
      refine e_cVV (hc := hw6) (rest := []) rfl rfl rfl rfl rfl (xorb g2) rfl rfl (xnm_no rfl) ?_
      refine e_iinc (y := 1) rfl rfl rfl (by decide) (xnm_no rfl) ?_
      refine e_goto (t := 2) rfl rfl rfl ?_
      exact xlfV h
set_option maxRecDepth 4000 in
theorem fX11_bare_0_i (v1 : Int32) (m : xmm) {z : Int32 × xmm} (h : ((fX3_hasPost 10 v1 m).bind fun (w1 : Int32 × xmm) => if w1.1 = 0 then some ((-1 : Int32), w1.2) else (fX3_rowOf 10 v1 w1.2).bind fun (w3 : Int32 × xmm) => (fJ6_bitCount w3.1 w3.2).bind fun (w5 : Int32 × xmm) => if w5.1 ≤ 0 then some (w5.1, w5.2) else (fX11_beforeChange_0 w5.2).bind fun (w7 : xmm) => (fX3_strip 10 v1 w7).bind fun (w9 : xmm) => some (w5.1, w9)) = some z) : fX11_bare_0 v1 m = some z := by
  refine xstI ?_
  show xT 121 4 0 [(0, .ref 0), (1, .int v1)] [] m (some (.int z.1), z.2)
  refine e_aload_n rfl rfl rfl (xnm_no rfl) ?_
  refine e_getR (r := 10) rfl rfl rfl rfl rfl (xnm_no rfl) ?_
  refine e_iload_n rfl rfl (xnm_no rfl) ?_
  obtain ⟨w1, hw2, h⟩ := xbd_some h
  refine e_cIV (hc := hw2) (rest := []) rfl rfl rfl rfl rfl rfl rfl rfl (xnm_no rfl) ?_
  refine e_if_ne (t := 13) rfl rfl (xnm_no rfl) (xnm_no rfl) h (fun h => ?_) (fun h => ?_)
  · refine e_aload_n rfl rfl rfl (xnm_no rfl) ?_
    refine e_getR (r := 10) rfl rfl rfl rfl rfl (xnm_no rfl) ?_
    refine e_iload_n rfl rfl (xnm_no rfl) ?_
    obtain ⟨w3, hw4, h⟩ := xbd_some h
    refine e_cIV (hc := hw4) (rest := []) rfl rfl rfl rfl rfl rfl rfl rfl (xnm_no rfl) ?_
    obtain ⟨w5, hw6, h⟩ := xbd_some h
    refine e_cIS (hc := hw6) (rest := []) rfl rfl rfl rfl rfl rfl rfl rfl (xnm_no rfl) ?_
    refine e_istore_n rfl rfl (xnm_no rfl) ?_
    refine e_iload_n rfl rfl (xnm_no rfl) ?_
    refine e_if_le (t := 41) rfl rfl (xnm_no rfl) (xnm_no rfl) h (fun h => ?_) (fun h => ?_)
    · refine e_iload_n rfl rfl (xnm_no rfl) ?_
      cases h
      exact e_retI rfl rfl
    · refine e_aload_n rfl rfl rfl (xnm_no rfl) ?_
      obtain ⟨w7, hw8, h⟩ := xbd_some h
      refine e_cVV (hc := hw8) (rest := []) rfl rfl rfl rfl rfl rfl rfl rfl (xnm_no rfl) ?_
      refine e_aload_n rfl rfl rfl (xnm_no rfl) ?_
      refine e_getR (r := 10) rfl rfl rfl rfl rfl (xnm_no rfl) ?_
      refine e_iload_n rfl rfl (xnm_no rfl) ?_
      obtain ⟨w9, hw10, h⟩ := xbd_some h
      refine e_cVV (hc := hw10) (rest := []) rfl rfl rfl rfl rfl rfl rfl rfl (xnm_no rfl) ?_
      refine e_iload_n rfl rfl (xnm_no rfl) ?_
      cases h
      exact e_retI rfl rfl
  · refine e_iconst (x := -1) rfl (by decide) (xnm_no rfl) ?_
    cases h
    exact e_retI rfl rfl
set_option maxRecDepth 4000 in
theorem fX11_line_0_i (v1 : Int32) (v2 : Int32) (m : xmm) {z : Int32 × xmm} (h : ((fX3_hasPair 10 v1 v2 m).bind fun (w1 : Int32 × xmm) => if w1.1 = 0 then some ((0 : Int32), w1.2) else (fX11_beforeChange_0 w1.2).bind fun (w3 : xmm) => (fX3_flip 10 v1 v2 w3).bind fun (w5 : xmm) => some ((1 : Int32), w5)) = some z) : fX11_line_0 v1 v2 m = some z := by
  refine xstI ?_
  show xT 118 3 0 [(0, .ref 0), (1, .int v1), (2, .int v2)] [] m (some (.int z.1), z.2)
  refine e_aload_n rfl rfl rfl (xnm_no rfl) ?_
  refine e_getR (r := 10) rfl rfl rfl rfl rfl (xnm_no rfl) ?_
  refine e_iload_n rfl rfl (xnm_no rfl) ?_
  refine e_iload_n rfl rfl (xnm_no rfl) ?_
  obtain ⟨w1, hw2, h⟩ := xbd_some h
  refine e_cIV (hc := hw2) (rest := []) rfl rfl rfl rfl rfl rfl rfl rfl (xnm_no rfl) ?_
  refine e_if_ne (t := 14) rfl rfl (xnm_no rfl) (xnm_no rfl) h (fun h => ?_) (fun h => ?_)
  · refine e_aload_n rfl rfl rfl (xnm_no rfl) ?_
    obtain ⟨w3, hw4, h⟩ := xbd_some h
    refine e_cVV (hc := hw4) (rest := []) rfl rfl rfl rfl rfl rfl rfl rfl (xnm_no rfl) ?_
    refine e_aload_n rfl rfl rfl (xnm_no rfl) ?_
    refine e_getR (r := 10) rfl rfl rfl rfl rfl (xnm_no rfl) ?_
    refine e_iload_n rfl rfl (xnm_no rfl) ?_
    refine e_iload_n rfl rfl (xnm_no rfl) ?_
    obtain ⟨w5, hw6, h⟩ := xbd_some h
    refine e_cVV (hc := hw6) (rest := []) rfl rfl rfl rfl rfl rfl rfl rfl (xnm_no rfl) ?_
    refine e_iconst (x := 1) rfl (by decide) (xnm_no rfl) ?_
    cases h
    exact e_retI rfl (by decide)
  · refine e_iconst (x := 0) rfl (by decide) (xnm_no rfl) ?_
    cases h
    exact e_retI rfl (by decide)
set_option maxRecDepth 4000 in
theorem fX11_far_0_i (v1 : Int32) (v2 : Int32) (m : xmm) {z : Int32 × xmm} (h : ((fX3_hasPost 10 v1 m).bind fun (w1 : Int32 × xmm) => if w1.1 = 0 then some ((-1 : Int32), w1.2) else (fX3_hasPost 10 v2 w1.2).bind fun (w3 : Int32 × xmm) => if w3.1 = 0 then some ((-1 : Int32), w3.2) else bX11_far_0_31 v2 ((1 : Int32) <<< (v1 &&& 31)) (0 : Int32) w3.2) = some z) : fX11_far_0 v1 v2 m = some z := by
  refine xstI ?_
  show xT 125 2 0 [(0, .ref 0), (1, .int v1), (2, .int v2)] [] m (some (.int z.1), z.2)
  refine e_aload_n rfl rfl rfl (xnm_no rfl) ?_
  refine e_getR (r := 10) rfl rfl rfl rfl rfl (xnm_no rfl) ?_
  refine e_iload_n rfl rfl (xnm_no rfl) ?_
  obtain ⟨w1, hw2, h⟩ := xbd_some h
  refine e_cIV (hc := hw2) (rest := []) rfl rfl rfl rfl rfl rfl rfl rfl (xnm_no rfl) ?_
  refine e_if_eq (t := 22) rfl rfl (xnm_no rfl) (xnm_no rfl) h (fun h => ?_) (fun h => ?_)
  · refine e_iconst (x := -1) rfl (by decide) (xnm_no rfl) ?_
    cases h
    exact e_retI rfl rfl
  · refine e_aload_n rfl rfl rfl (xnm_no rfl) ?_
    refine e_getR (r := 10) rfl rfl rfl rfl rfl (xnm_no rfl) ?_
    refine e_iload_n rfl rfl (xnm_no rfl) ?_
    obtain ⟨w3, hw4, h⟩ := xbd_some h
    refine e_cIV (hc := hw4) (rest := []) rfl rfl rfl rfl rfl rfl rfl rfl (xnm_no rfl) ?_
    refine e_if_ne (t := 24) rfl rfl (xnm_no rfl) (xnm_no rfl) h (fun h => ?_) (fun h => ?_)
    · refine e_iconst (x := 1) rfl (by decide) (xnm_no rfl) ?_
      refine e_iload_n rfl rfl (xnm_no rfl) ?_
      refine e_ishl rfl (xnm_no rfl) ?_
      refine e_istore_n rfl rfl (xnm_no rfl) ?_
      refine e_iconst (x := 0) rfl (by decide) (xnm_no rfl) ?_
      refine e_istore rfl rfl rfl ?_
      exact xlfI h
    · refine e_iconst (x := -1) rfl (by decide) (xnm_no rfl) ?_
      cases h
      exact e_retI rfl rfl
set_option maxRecDepth 4000 in
theorem bX11_far_0_31_i (v2 : Int32) (v3 : Int32) (v4 : Int32) (m : xmm) {z : Int32 × xmm} (h : (if (8 : Int32) ≤ v4 then some ((-2 : Int32), m) else (fX11_contains v3 v2 m).bind fun (w1 : Int32 × xmm) => if w1.1 = 0 then (fX9_touched 11 v3 w1.2).bind fun (w3 : Int32 × xmm) => bX11_far_0_31 v2 (v3 ||| w3.1) (v4 + (1 : Int32)) w3.2 else some (v4, w1.2)) = some z) : bX11_far_0_31 v2 v3 v4 m = some z := by
  refine xstI ?_
  show xT 125 2 31 [(0, .ref 0), (2, .int v2), (3, .int v3), (4, .int v4)] [] m (some (.int z.1), z.2)
  refine e_iload rfl rfl (xnm_no rfl) ?_
  refine e_bipush (x := 8) rfl (by decide) (xnm_no rfl) ?_
  refine e_icmp_ge (t := 69) rfl rfl (xnm_no rfl) (xnm_no rfl) h (fun h => ?_) (fun h => ?_)
  · refine e_bipush (x := -2) rfl (by decide) (xnm_no rfl) ?_
    cases h
    exact e_retI rfl rfl
  · refine e_iload_n rfl rfl (xnm_no rfl) ?_
    refine e_iload_n rfl rfl (xnm_no rfl) ?_
    obtain ⟨w1, hw2, h⟩ := xbd_some h
    refine e_cIS (hc := hw2) (rest := []) rfl rfl rfl rfl rfl rfl rfl rfl (xnm_no rfl) ?_
    refine e_if_eq (t := 49) rfl rfl (xnm_no rfl) (xnm_no rfl) h (fun h => ?_) (fun h => ?_)
    · refine e_iload_n rfl rfl (xnm_no rfl) ?_
      refine e_aload_n rfl rfl rfl (xnm_no rfl) ?_
      refine e_getR (r := 10) rfl rfl rfl rfl rfl (xnm_no rfl) ?_
      refine e_getR (r := 11) rfl rfl rfl rfl rfl (xnm_no rfl) ?_
      refine e_iload_n rfl rfl (xnm_no rfl) ?_
      obtain ⟨w3, hw4, h⟩ := xbd_some h
      refine e_cIS (hc := hw4) (rest := [.int _]) rfl rfl rfl rfl rfl rfl rfl rfl (xnm_no rfl) ?_
      refine e_ior rfl (xnm_no rfl) ?_
      refine e_istore_n rfl rfl (xnm_no rfl) ?_
      refine e_iinc (y := 1) rfl rfl rfl (by decide) (xnm_no rfl) ?_
      refine e_goto (t := 31) rfl rfl rfl ?_
      exact xlfI h
    · refine e_iload rfl rfl (xnm_no rfl) ?_
      cases h
      exact e_retI rfl rfl
set_option maxRecDepth 4000 in
theorem bL_law_39_i (cc ss : Nat) (m : xmm) {z : Int32 × xmm} (h : (xgd (Nat.ble cc (xmc 171) && Nat.ble ss (xms 171)) ((fX11_count_0 (0 : Int32) m).bind fun (w1 : Int32 × xmm) => if w1.1 = 0 then (fX11_network_0 (0 : Int32) w1.2).bind fun (w4 : Int32 × xmm) => if w4.1 = (1 : Int32) then (fX11_network_0 (3 : Int32) w4.2).bind fun (w6 : Int32 × xmm) => if w6.1 = (1 : Int32) then (fX11_order_0 (0 : Int32) w6.2).bind fun (w8 : Int32 × xmm) => if w8.1 = (1 : Int32) then (fX11_colours_0 (0 : Int32) w8.2).bind fun (w10 : Int32 × xmm) => if w10.1 = (1 : Int32) then (fX11_undo_0 w10.2).bind fun (w12 : Int32 × xmm) => if w12.1 = 0 then (fX11_set_0 (0 : Int32) (0 : Int32) w12.2).bind fun (w14 : Int32 × xmm) => if w14.1 = (1 : Int32) then (fX11_like_0 (0 : Int32) w14.2).bind fun (w16 : Int32 × xmm) => if w16.1 = (-1 : Int32) then bL_law_114 (1 : Int32) cc ss w16.2 else bL_law_114 (0 : Int32) cc ss w16.2 else bL_law_114 (0 : Int32) cc ss w14.2 else bL_law_114 (0 : Int32) cc ss w12.2 else bL_law_114 (0 : Int32) cc ss w10.2 else bL_law_114 (0 : Int32) cc ss w8.2 else bL_law_114 (0 : Int32) cc ss w6.2 else bL_law_114 (0 : Int32) cc ss w4.2 else bL_law_114 (0 : Int32) cc ss w1.2)) = some z) : bL_law_39 cc ss m = some z := by
  refine xstIc ?_
  show xTc cc ss 171 20 39 [(1, .ref 999), (2, .ref 0)] [] m (some (.int z.1), z.2)
  refine e_aload_n rfl rfl rfl (xnm_no rfl) ?_
  refine e_iconst (x := 0) rfl (by decide) (xnm_no rfl) ?_
  obtain ⟨g3, h⟩ := xgd_some h
  obtain ⟨w1, hw2, h⟩ := xbd_some h
  refine e_cIVc (hc := hw2) (rest := []) (c2 := cc) (s2 := ss) rfl rfl rfl rfl rfl rfl rfl (xadd0 rfl) (xadd0 rfl) g3 rfl (xnm_no rfl) ?_
  refine e_if_ne (t := 113) rfl rfl (xnm_no rfl) (xnm_no rfl) h (fun h => ?_) (fun h => ?_)
  · refine e_iconst (x := 0) rfl (by decide) rfl ?_
    exact xlfIc h
  · refine e_aload_n rfl rfl rfl (xnm_no rfl) ?_
    refine e_iconst (x := 0) rfl (by decide) (xnm_no rfl) ?_
    obtain ⟨w4, hw5, h⟩ := xbd_some h
    refine e_cIVc (hc := hw5) (rest := []) (c2 := cc) (s2 := ss) rfl rfl rfl rfl rfl rfl rfl (xadd0 rfl) (xadd0 rfl) g3 rfl (xnm_no rfl) ?_
    refine e_iconst (x := 1) rfl (by decide) (xnm_no rfl) ?_
    refine e_icmp_ne (t := 113) rfl rfl (xnm_no rfl) (xnm_no rfl) h (fun h => ?_) (fun h => ?_)
    · refine e_iconst (x := 0) rfl (by decide) rfl ?_
      exact xlfIc h
    · refine e_aload_n rfl rfl rfl (xnm_no rfl) ?_
      refine e_iconst (x := 3) rfl (by decide) (xnm_no rfl) ?_
      obtain ⟨w6, hw7, h⟩ := xbd_some h
      refine e_cIVc (hc := hw7) (rest := []) (c2 := cc) (s2 := ss) rfl rfl rfl rfl rfl rfl rfl (xadd0 rfl) (xadd0 rfl) g3 rfl (xnm_no rfl) ?_
      refine e_iconst (x := 1) rfl (by decide) (xnm_no rfl) ?_
      refine e_icmp_ne (t := 113) rfl rfl (xnm_no rfl) (xnm_no rfl) h (fun h => ?_) (fun h => ?_)
      · refine e_iconst (x := 0) rfl (by decide) rfl ?_
        exact xlfIc h
      · refine e_aload_n rfl rfl rfl (xnm_no rfl) ?_
        refine e_iconst (x := 0) rfl (by decide) (xnm_no rfl) ?_
        obtain ⟨w8, hw9, h⟩ := xbd_some h
        refine e_cIVc (hc := hw9) (rest := []) (c2 := cc) (s2 := ss) rfl rfl rfl rfl rfl rfl rfl (xadd0 rfl) (xadd0 rfl) g3 rfl (xnm_no rfl) ?_
        refine e_iconst (x := 1) rfl (by decide) (xnm_no rfl) ?_
        refine e_icmp_ne (t := 113) rfl rfl (xnm_no rfl) (xnm_no rfl) h (fun h => ?_) (fun h => ?_)
        · refine e_iconst (x := 0) rfl (by decide) rfl ?_
          exact xlfIc h
        · refine e_aload_n rfl rfl rfl (xnm_no rfl) ?_
          refine e_iconst (x := 0) rfl (by decide) (xnm_no rfl) ?_
          obtain ⟨w10, hw11, h⟩ := xbd_some h
          refine e_cIVc (hc := hw11) (rest := []) (c2 := cc) (s2 := ss) rfl rfl rfl rfl rfl rfl rfl (xadd0 rfl) (xadd0 rfl) g3 rfl (xnm_no rfl) ?_
          refine e_iconst (x := 1) rfl (by decide) (xnm_no rfl) ?_
          refine e_icmp_ne (t := 113) rfl rfl (xnm_no rfl) (xnm_no rfl) h (fun h => ?_) (fun h => ?_)
          · refine e_iconst (x := 0) rfl (by decide) rfl ?_
            exact xlfIc h
          · refine e_aload_n rfl rfl rfl (xnm_no rfl) ?_
            obtain ⟨w12, hw13, h⟩ := xbd_some h
            refine e_cIVc (hc := hw13) (rest := []) (c2 := cc) (s2 := ss) rfl rfl rfl rfl rfl rfl rfl (xadd0 rfl) (xadd0 rfl) g3 rfl (xnm_no rfl) ?_
            refine e_if_ne (t := 113) rfl rfl (xnm_no rfl) (xnm_no rfl) h (fun h => ?_) (fun h => ?_)
            · refine e_iconst (x := 0) rfl (by decide) rfl ?_
              exact xlfIc h
            · refine e_aload_n rfl rfl rfl (xnm_no rfl) ?_
              refine e_iconst (x := 0) rfl (by decide) (xnm_no rfl) ?_
              refine e_iconst (x := 0) rfl (by decide) (xnm_no rfl) ?_
              obtain ⟨w14, hw15, h⟩ := xbd_some h
              refine e_cIVc (hc := hw15) (rest := []) (c2 := cc) (s2 := ss) rfl rfl rfl rfl rfl rfl rfl (xadd0 rfl) (xadd0 rfl) g3 rfl (xnm_no rfl) ?_
              refine e_iconst (x := 1) rfl (by decide) (xnm_no rfl) ?_
              refine e_icmp_ne (t := 113) rfl rfl (xnm_no rfl) (xnm_no rfl) h (fun h => ?_) (fun h => ?_)
              · refine e_iconst (x := 0) rfl (by decide) rfl ?_
                exact xlfIc h
              · refine e_aload_n rfl rfl rfl (xnm_no rfl) ?_
                refine e_iconst (x := 0) rfl (by decide) (xnm_no rfl) ?_
                obtain ⟨w16, hw17, h⟩ := xbd_some h
                refine e_cIVc (hc := hw17) (rest := []) (c2 := cc) (s2 := ss) rfl rfl rfl rfl rfl rfl rfl (xadd0 rfl) (xadd0 rfl) g3 rfl (xnm_no rfl) ?_
                refine e_iconst (x := -1) rfl (by decide) (xnm_no rfl) ?_
                refine e_icmp_ne (t := 113) rfl rfl (xnm_no rfl) (xnm_no rfl) h (fun h => ?_) (fun h => ?_)
                · refine e_iconst (x := 0) rfl (by decide) rfl ?_
                  exact xlfIc h
                · refine e_iconst (x := 1) rfl (by decide) (xnm_no rfl) ?_
                  refine e_goto (t := 114) rfl rfl rfl ?_
                  exact xlfIc h
set_option maxRecDepth 4000 in
theorem bL_law_114_i (s0 : Int32) (cc ss : Nat) (m : xmm) {z : Int32 × xmm} (h : (xgd (xir m 999 (0 : Int32)) (xlt (((m.1 999 0) &&& (255 : Int32)) - ((m.1 999 0) &&& (255 : Int32)) / (9 : Int32) * (9 : Int32)) fun (x2 : Int32) => xgd (xir m 999 (1 : Int32)) (xgd (xir m 999 (2 : Int32)) (xgd (Nat.ble cc (xmc 171) && Nat.ble ss (xms 171)) ((fL_told_0 x2 (m.1 999 1) (m.1 999 2) m).bind fun (w5 : xmm) => if s0 = 0 then bL_law_173 x2 (0 : Int32) cc ss w5 else (fX11_read_0 w5).bind fun (w8 : Int32 × xmm) => if w8.1 = 0 then (fX11_count_0 (0 : Int32) w8.2).bind fun (w10 : Int32 × xmm) => if w10.1 = x2 then (fX11_hold_0 (0 : Int32) w10.2).bind fun (w12 : Int32 × xmm) => if w12.1 = 0 then bL_law_173 x2 (0 : Int32) cc ss w12.2 else bL_law_173 x2 (1 : Int32) cc ss w12.2 else bL_law_173 x2 (0 : Int32) cc ss w10.2 else bL_law_173 x2 (0 : Int32) cc ss w8.2))))) = some z) : bL_law_114 s0 cc ss m = some z := by
  refine xstIc ?_
  show xTc cc ss 171 20 114 [(1, .ref 999), (2, .ref 0)] [.int s0] m (some (.int z.1), z.2)
  refine e_istore_n rfl rfl (xnm_no rfl) ?_
  refine e_aload_n rfl rfl rfl (xnm_no rfl) ?_
  refine e_iconst (x := 0) rfl (by decide) (xnm_no rfl) ?_
  obtain ⟨g1, h⟩ := xgd_some h
  refine e_rald rfl g1 (xnm_no rfl) ?_
  refine e_sipush (x := 255) rfl (by decide) (xnm_no rfl) ?_
  refine e_iand rfl (xnm_no rfl) ?_
  refine e_bipush (x := 9) rfl (by decide) (xnm_no rfl) ?_
  refine e_irem rfl (by decide) (xnm_no rfl) ?_
  replace h := xlt_b h
  refine e_istore rfl rfl (xnm_no rfl) ?_
  refine e_aload_n rfl rfl rfl (xnm_no rfl) ?_
  refine e_iload rfl rfl (xnm_no rfl) ?_
  refine e_aload_n rfl rfl rfl (xnm_no rfl) ?_
  refine e_iconst (x := 1) rfl (by decide) (xnm_no rfl) ?_
  obtain ⟨g3, h⟩ := xgd_some h
  refine e_rald rfl g3 (xnm_no rfl) ?_
  refine e_aload_n rfl rfl rfl (xnm_no rfl) ?_
  refine e_iconst (x := 2) rfl (by decide) (xnm_no rfl) ?_
  obtain ⟨g4, h⟩ := xgd_some h
  refine e_rald rfl g4 (xnm_no rfl) ?_
  obtain ⟨g7, h⟩ := xgd_some h
  obtain ⟨w5, hw6, h⟩ := xbd_some h
  refine e_cVSc (hc := hw6) (rest := []) (c2 := cc) (s2 := ss) rfl rfl rfl rfl rfl rfl rfl (xadd0 rfl) (xadd0 rfl) g7 rfl (xnm_no rfl) ?_
  refine e_iload_n rfl rfl (xnm_no rfl) ?_
  refine e_if_eq (t := 172) rfl rfl (xnm_no rfl) (xnm_no rfl) h (fun h => ?_) (fun h => ?_)
  · refine e_iconst (x := 0) rfl (by decide) rfl ?_
    exact xlfIc h
  · refine e_aload_n rfl rfl rfl (xnm_no rfl) ?_
    obtain ⟨w8, hw9, h⟩ := xbd_some h
    refine e_cIVc (hc := hw9) (rest := []) (c2 := cc) (s2 := ss) rfl rfl rfl rfl rfl rfl rfl (xadd0 rfl) (xadd0 rfl) g7 rfl (xnm_no rfl) ?_
    refine e_if_ne (t := 172) rfl rfl (xnm_no rfl) (xnm_no rfl) h (fun h => ?_) (fun h => ?_)
    · refine e_iconst (x := 0) rfl (by decide) rfl ?_
      exact xlfIc h
    · refine e_aload_n rfl rfl rfl (xnm_no rfl) ?_
      refine e_iconst (x := 0) rfl (by decide) (xnm_no rfl) ?_
      obtain ⟨w10, hw11, h⟩ := xbd_some h
      refine e_cIVc (hc := hw11) (rest := []) (c2 := cc) (s2 := ss) rfl rfl rfl rfl rfl rfl rfl (xadd0 rfl) (xadd0 rfl) g7 rfl (xnm_no rfl) ?_
      refine e_iload rfl rfl (xnm_no rfl) ?_
      refine e_icmp_ne (t := 172) rfl rfl (xnm_no rfl) (xnm_no rfl) h (fun h => ?_) (fun h => ?_)
      · refine e_iconst (x := 0) rfl (by decide) rfl ?_
        exact xlfIc h
      · refine e_aload_n rfl rfl rfl (xnm_no rfl) ?_
        refine e_iconst (x := 0) rfl (by decide) (xnm_no rfl) ?_
        obtain ⟨w12, hw13, h⟩ := xbd_some h
        refine e_cIVc (hc := hw13) (rest := []) (c2 := cc) (s2 := ss) rfl rfl rfl rfl rfl rfl rfl (xadd0 rfl) (xadd0 rfl) g7 rfl (xnm_no rfl) ?_
        refine e_if_eq (t := 172) rfl rfl (xnm_no rfl) (xnm_no rfl) h (fun h => ?_) (fun h => ?_)
        · refine e_iconst (x := 0) rfl (by decide) rfl ?_
          exact xlfIc h
        · refine e_iconst (x := 1) rfl (by decide) (xnm_no rfl) ?_
          refine e_goto (t := 173) rfl rfl rfl ?_
          exact xlfIc h
set_option maxRecDepth 4000 in
theorem bL_law_173_i (v4 : Int32) (s0 : Int32) (cc ss : Nat) (m : xmm) {z : Int32 × xmm} (h : (xgd (Nat.ble (cc + 1) (xmc 171) && Nat.ble (ss + 70) (xms 171)) ((fL_kept_0 m).bind fun (w1 : Nat × xmm) => xgr w1.1 fun k4 => xgd (!(Nat.beq k4 1999)) (bL_law_183 s0 v4 k4 (3 : Int32) (cc + 1) (ss + 70) w1.2))) = some z) : bL_law_173 v4 s0 cc ss m = some z := by
  refine xstIc ?_
  show xTc cc ss 171 20 173 [(1, .ref 999), (2, .ref 0), (4, .int v4)] [.int s0] m (some (.int z.1), z.2)
  refine e_istore_n rfl rfl (xnm_no rfl) ?_
  refine e_aload_n rfl rfl rfl (xnm_no rfl) ?_
  obtain ⟨g3, h⟩ := xgd_some h
  obtain ⟨w1, hw2, h⟩ := xbd_some h
  obtain ⟨k4, hk5, h⟩ := xgr_some h
  refine e_cRSc (k := k4) (hc := xr1 hw2 hk5) (rest := []) (c2 := (cc + 1)) (s2 := (ss + 70)) rfl rfl rfl rfl rfl rfl rfl rfl rfl g3 rfl (xnm_no rfl) ?_
  obtain ⟨g6, h⟩ := xgd_some h
  refine e_astore rfl rfl (xnb g6) (xnm_no rfl) ?_
  refine e_iconst (x := 3) rfl (by decide) (xnm_no rfl) ?_
  refine e_istore rfl rfl rfl ?_
  exact xlfIc h
set_option maxRecDepth 4000 in
theorem bL_law_183_i (v3 : Int32) (v4 : Int32) (v5 : Nat) (v6 : Int32) (cc ss : Nat) (m : xmm) {z : Int32 × xmm} (h : (if (18 : Int32) ≤ v6 then bL_law_1449 v3 v5 cc ss m else if v3 = 0 then bL_law_1449 v3 v5 cc ss m else xgd (xir m 999 v6) (xgd (Nat.ble cc (xmc 171) && Nat.ble ss (xms 171)) ((fL_arrows_0 (((m.1 999 (v6).toNatClampNeg) &&& (2147483647 : Int32)) >>> ((3 : Int32) &&& 31)) m).bind fun (w2 : Int32 × xmm) => if w2.1 = 0 then bL_law_230 v4 v5 v6 ((m.1 999 (v6).toNatClampNeg) &&& (2147483647 : Int32)) (0 : Int32) cc ss w2.2 else xgd (Nat.ble (cc + 1) (xmc 171) && Nat.ble (ss + 9) (xms 171)) ((fL_orders_0 (((m.1 999 (v6).toNatClampNeg) &&& (2147483647 : Int32)) >>> ((4 : Int32) &&& 31)) w2.2).bind fun (w5 : Int32 × xmm) => if w5.1 = 0 then bL_law_230 v4 v5 v6 ((m.1 999 (v6).toNatClampNeg) &&& (2147483647 : Int32)) (0 : Int32) (cc + 1) (ss + 9) w5.2 else bL_law_230 v4 v5 v6 ((m.1 999 (v6).toNatClampNeg) &&& (2147483647 : Int32)) (1 : Int32) (cc + 1) (ss + 9) w5.2)))) = some z) : bL_law_183 v3 v4 v5 v6 cc ss m = some z := by
  refine xstIc ?_
  show xTc cc ss 171 20 183 [(1, .ref 999), (2, .ref 0), (3, .int v3), (4, .int v4), (5, .ref v5), (6, .int v6)] [] m (some (.int z.1), z.2)
  refine e_iload rfl rfl (xnm_no rfl) ?_
  refine e_bipush (x := 18) rfl (by decide) (xnm_no rfl) ?_
  refine e_icmp_ge (t := 1449) rfl rfl rfl (xnm_no rfl) h (fun h => ?_) (fun h => ?_)
  · exact xlfIc h
  · refine e_iload_n rfl rfl (xnm_no rfl) ?_
    refine e_if_eq (t := 1449) rfl rfl rfl (xnm_no rfl) h (fun h => ?_) (fun h => ?_)
    · exact xlfIc h
    · refine e_aload_n rfl rfl rfl (xnm_no rfl) ?_
      refine e_iload rfl rfl (xnm_no rfl) ?_
      obtain ⟨g1, h⟩ := xgd_some h
      refine e_rald rfl g1 (xnm_no rfl) ?_
      refine e_ldcI (v := 2147483647) rfl rfl (xnm_no rfl) ?_
      refine e_iand rfl (xnm_no rfl) ?_
      refine e_istore rfl rfl (xnm_no rfl) ?_
      refine e_aload_n rfl rfl rfl (xnm_no rfl) ?_
      refine e_iload rfl rfl (xnm_no rfl) ?_
      refine e_iconst (x := 3) rfl (by decide) (xnm_no rfl) ?_
      refine e_ishr rfl (xnm_no rfl) ?_
      obtain ⟨g4, h⟩ := xgd_some h
      obtain ⟨w2, hw3, h⟩ := xbd_some h
      refine e_cISc (hc := hw3) (rest := []) (c2 := cc) (s2 := ss) rfl rfl rfl rfl rfl rfl rfl (xadd0 rfl) (xadd0 rfl) g4 rfl (xnm_no rfl) ?_
      refine e_if_eq (t := 229) rfl rfl (xnm_no rfl) (xnm_no rfl) h (fun h => ?_) (fun h => ?_)
      · refine e_iconst (x := 0) rfl (by decide) rfl ?_
        exact xlfIc h
      · refine e_aload_n rfl rfl rfl (xnm_no rfl) ?_
        refine e_iload rfl rfl (xnm_no rfl) ?_
        refine e_iconst (x := 4) rfl (by decide) (xnm_no rfl) ?_
        refine e_ishr rfl (xnm_no rfl) ?_
        obtain ⟨g7, h⟩ := xgd_some h
        obtain ⟨w5, hw6, h⟩ := xbd_some h
        refine e_cISc (hc := hw6) (rest := []) (c2 := (cc + 1)) (s2 := (ss + 9)) rfl rfl rfl rfl rfl rfl rfl rfl rfl g7 rfl (xnm_no rfl) ?_
        refine e_if_eq (t := 229) rfl rfl (xnm_no rfl) (xnm_no rfl) h (fun h => ?_) (fun h => ?_)
        · refine e_iconst (x := 0) rfl (by decide) rfl ?_
          exact xlfIc h
        · refine e_iconst (x := 1) rfl (by decide) (xnm_no rfl) ?_
          refine e_goto (t := 230) rfl rfl rfl ?_
          exact xlfIc h
set_option maxRecDepth 4000 in
theorem bL_law_1449_i (v3 : Int32) (v5 : Nat) (cc ss : Nat) (m : xmm) {z : Int32 × xmm} (h : (xgd (Nat.ble (cc + 1) (xmc 171) && Nat.ble (ss + 70) (xms 171)) ((fL_kept_0 m).bind fun (w1 : Nat × xmm) => xgr w1.1 fun k4 => xgd (!(Nat.beq k4 1999)) (if v3 = 0 then bL_law_1506 v5 (0 : Int32) (cc + 1) (ss + 70) w1.2 else (fX11_hold_0 (2 : Int32) w1.2).bind fun (w7 : Int32 × xmm) => if w7.1 = 0 then bL_law_1506 v5 (0 : Int32) (cc + 1) (ss + 70) w7.2 else (fX11_other_0 w7.2).bind fun (w9 : Int32 × xmm) => if w9.1 < 0 then bL_law_1506 v5 (0 : Int32) (cc + 1) (ss + 70) w9.2 else (fX11_restore_0 (2 : Int32) w9.2).bind fun (w11 : Int32 × xmm) => if w11.1 = 0 then bL_law_1506 v5 (0 : Int32) (cc + 1) (ss + 70) w11.2 else xgd (Nat.ble ((cc + 1) + 1) (xmc 171) && Nat.ble ((ss + 70) + 70) (xms 171)) ((fL_kept_0 w11.2).bind fun (w13 : Nat × xmm) => xgr w13.1 fun k16 => (fL_same k16 k4 w13.2).bind fun (w18 : Int32 × xmm) => if w18.1 = 0 then bL_law_1506 v5 (0 : Int32) ((cc + 1) + 1) ((ss + 70) + 70) w18.2 else (fX11_undo_0 w18.2).bind fun (w20 : Int32 × xmm) => if w20.1 = 0 then bL_law_1506 v5 (1 : Int32) ((cc + 1) + 1) ((ss + 70) + 70) w20.2 else bL_law_1506 v5 (0 : Int32) ((cc + 1) + 1) ((ss + 70) + 70) w20.2)))) = some z) : bL_law_1449 v3 v5 cc ss m = some z := by
  refine xstIc ?_
  show xTc cc ss 171 20 1449 [(2, .ref 0), (3, .int v3), (5, .ref v5)] [] m (some (.int z.1), z.2)
  refine e_aload_n rfl rfl rfl (xnm_no rfl) ?_
  obtain ⟨g3, h⟩ := xgd_some h
  obtain ⟨w1, hw2, h⟩ := xbd_some h
  obtain ⟨k4, hk5, h⟩ := xgr_some h
  refine e_cRSc (k := k4) (hc := xr1 hw2 hk5) (rest := []) (c2 := (cc + 1)) (s2 := (ss + 70)) rfl rfl rfl rfl rfl rfl rfl rfl rfl g3 rfl (xnm_no rfl) ?_
  obtain ⟨g6, h⟩ := xgd_some h
  refine e_astore rfl rfl (xnb g6) (xnm_no rfl) ?_
  refine e_iload_n rfl rfl (xnm_no rfl) ?_
  refine e_if_eq (t := 1505) rfl rfl (xnm_no rfl) (xnm_no rfl) h (fun h => ?_) (fun h => ?_)
  · refine e_iconst (x := 0) rfl (by decide) rfl ?_
    exact xlfIc h
  · refine e_aload_n rfl rfl rfl (xnm_no rfl) ?_
    refine e_iconst (x := 2) rfl (by decide) (xnm_no rfl) ?_
    obtain ⟨w7, hw8, h⟩ := xbd_some h
    refine e_cIVc (hc := hw8) (rest := []) (c2 := (cc + 1)) (s2 := (ss + 70)) rfl rfl rfl rfl rfl rfl rfl (xadd0 rfl) (xadd0 rfl) g3 rfl (xnm_no rfl) ?_
    refine e_if_eq (t := 1505) rfl rfl (xnm_no rfl) (xnm_no rfl) h (fun h => ?_) (fun h => ?_)
    · refine e_iconst (x := 0) rfl (by decide) rfl ?_
      exact xlfIc h
    · refine e_aload_n rfl rfl rfl (xnm_no rfl) ?_
      obtain ⟨w9, hw10, h⟩ := xbd_some h
      refine e_cIVc (hc := hw10) (rest := []) (c2 := (cc + 1)) (s2 := (ss + 70)) rfl rfl rfl rfl rfl rfl rfl (xadd0 rfl) (xadd0 rfl) g3 rfl (xnm_no rfl) ?_
      refine e_if_lt (t := 1505) rfl rfl (xnm_no rfl) (xnm_no rfl) h (fun h => ?_) (fun h => ?_)
      · refine e_iconst (x := 0) rfl (by decide) rfl ?_
        exact xlfIc h
      · refine e_aload_n rfl rfl rfl (xnm_no rfl) ?_
        refine e_iconst (x := 2) rfl (by decide) (xnm_no rfl) ?_
        obtain ⟨w11, hw12, h⟩ := xbd_some h
        refine e_cIVc (hc := hw12) (rest := []) (c2 := (cc + 1)) (s2 := (ss + 70)) rfl rfl rfl rfl rfl rfl rfl (xadd0 rfl) (xadd0 rfl) g3 rfl (xnm_no rfl) ?_
        refine e_if_eq (t := 1505) rfl rfl (xnm_no rfl) (xnm_no rfl) h (fun h => ?_) (fun h => ?_)
        · refine e_iconst (x := 0) rfl (by decide) rfl ?_
          exact xlfIc h
        · refine e_aload_n rfl rfl rfl (xnm_no rfl) ?_
          obtain ⟨g15, h⟩ := xgd_some h
          obtain ⟨w13, hw14, h⟩ := xbd_some h
          obtain ⟨k16, hk17, h⟩ := xgr_some h
          refine e_cRSc (k := k16) (hc := xr1 hw14 hk17) (rest := []) (c2 := ((cc + 1) + 1)) (s2 := ((ss + 70) + 70)) rfl rfl rfl rfl rfl rfl rfl rfl rfl g15 rfl (xnm_no rfl) ?_
          refine e_aload rfl rfl (xnb g6) (xnm_no rfl) ?_
          obtain ⟨w18, hw19, h⟩ := xbd_some h
          refine e_cISc (hc := hw19) (rest := []) (c2 := ((cc + 1) + 1)) (s2 := ((ss + 70) + 70)) rfl rfl rfl rfl rfl rfl rfl (xadd0 rfl) (xadd0 rfl) g15 rfl (xnm_no rfl) ?_
          refine e_if_eq (t := 1505) rfl rfl (xnm_no rfl) (xnm_no rfl) h (fun h => ?_) (fun h => ?_)
          · refine e_iconst (x := 0) rfl (by decide) rfl ?_
            exact xlfIc h
          · refine e_aload_n rfl rfl rfl (xnm_no rfl) ?_
            obtain ⟨w20, hw21, h⟩ := xbd_some h
            refine e_cIVc (hc := hw21) (rest := []) (c2 := ((cc + 1) + 1)) (s2 := ((ss + 70) + 70)) rfl rfl rfl rfl rfl rfl rfl (xadd0 rfl) (xadd0 rfl) g15 rfl (xnm_no rfl) ?_
            refine e_if_ne (t := 1505) rfl rfl (xnm_no rfl) (xnm_no rfl) h (fun h => ?_) (fun h => ?_)
            · refine e_iconst (x := 0) rfl (by decide) rfl ?_
              exact xlfIc h
            · refine e_iconst (x := 1) rfl (by decide) (xnm_no rfl) ?_
              refine e_goto (t := 1506) rfl rfl rfl ?_
              exact xlfIc h
set_option maxRecDepth 4000 in
theorem bL_law_230_i (v4 : Int32) (v5 : Nat) (v6 : Int32) (v7 : Int32) (s0 : Int32) (cc ss : Nat) (m : xmm) {z : Int32 × xmm} (h : (xgd (Nat.ble cc (xmc 171) && Nat.ble ss (xms 171)) ((fX11_count_0 (1 : Int32) m).bind fun (w1 : Int32 × xmm) => (fX11_count_0 (9 : Int32) w1.2).bind fun (w4 : Int32 × xmm) => (fX11_network_0 (0 : Int32) w4.2).bind fun (w6 : Int32 × xmm) => xgd (Nat.ble (cc + 1) (xmc 171) && Nat.ble (ss + 70) (xms 171)) ((fL_kept_0 w6.2).bind fun (w8 : Nat × xmm) => xgr w8.1 fun k11 => xgd (!(Nat.beq k11 1999)) (if v4 = 0 then bL_law_275 s0 v4 v5 v6 v7 w1.1 w4.1 w6.1 k11 (0 : Int32) (cc + 1) (ss + 70) w8.2 else xgd (!(decide (v4 = 0))) (bL_law_275 s0 v4 v5 v6 v7 w1.1 w4.1 w6.1 k11 ((v7 >>> ((3 : Int32) &&& 31)) - (v7 >>> ((3 : Int32) &&& 31)) / v4 * v4) (cc + 1) (ss + 70) w8.2))))) = some z) : bL_law_230 v4 v5 v6 v7 s0 cc ss m = some z := by
  refine xstIc ?_
  show xTc cc ss 171 20 230 [(1, .ref 999), (2, .ref 0), (4, .int v4), (5, .ref v5), (6, .int v6), (7, .int v7)] [.int s0] m (some (.int z.1), z.2)
  refine e_istore_n rfl rfl (xnm_no rfl) ?_
  refine e_aload_n rfl rfl rfl (xnm_no rfl) ?_
  refine e_iconst (x := 1) rfl (by decide) (xnm_no rfl) ?_
  obtain ⟨g3, h⟩ := xgd_some h
  obtain ⟨w1, hw2, h⟩ := xbd_some h
  refine e_cIVc (hc := hw2) (rest := []) (c2 := cc) (s2 := ss) rfl rfl rfl rfl rfl rfl rfl (xadd0 rfl) (xadd0 rfl) g3 rfl (xnm_no rfl) ?_
  refine e_istore rfl rfl (xnm_no rfl) ?_
  refine e_aload_n rfl rfl rfl (xnm_no rfl) ?_
  refine e_bipush (x := 9) rfl (by decide) (xnm_no rfl) ?_
  obtain ⟨w4, hw5, h⟩ := xbd_some h
  refine e_cIVc (hc := hw5) (rest := []) (c2 := cc) (s2 := ss) rfl rfl rfl rfl rfl rfl rfl (xadd0 rfl) (xadd0 rfl) g3 rfl (xnm_no rfl) ?_
  refine e_istore rfl rfl (xnm_no rfl) ?_
  refine e_aload_n rfl rfl rfl (xnm_no rfl) ?_
  refine e_iconst (x := 0) rfl (by decide) (xnm_no rfl) ?_
  obtain ⟨w6, hw7, h⟩ := xbd_some h
  refine e_cIVc (hc := hw7) (rest := []) (c2 := cc) (s2 := ss) rfl rfl rfl rfl rfl rfl rfl (xadd0 rfl) (xadd0 rfl) g3 rfl (xnm_no rfl) ?_
  refine e_istore rfl rfl (xnm_no rfl) ?_
  refine e_aload_n rfl rfl rfl (xnm_no rfl) ?_
  obtain ⟨g10, h⟩ := xgd_some h
  obtain ⟨w8, hw9, h⟩ := xbd_some h
  obtain ⟨k11, hk12, h⟩ := xgr_some h
  refine e_cRSc (k := k11) (hc := xr1 hw9 hk12) (rest := []) (c2 := (cc + 1)) (s2 := (ss + 70)) rfl rfl rfl rfl rfl rfl rfl rfl rfl g10 rfl (xnm_no rfl) ?_
  obtain ⟨g13, h⟩ := xgd_some h
  refine e_astore rfl rfl (xnb g13) (xnm_no rfl) ?_
  refine e_iload rfl rfl (xnm_no rfl) ?_
  refine e_if_ne (t := 268) rfl rfl (xnm_no rfl) (xnm_no rfl) h (fun h => ?_) (fun h => ?_)
  · refine e_iload rfl rfl (xnm_no rfl) ?_
    refine e_iconst (x := 3) rfl (by decide) (xnm_no rfl) ?_
    refine e_ishr rfl (xnm_no rfl) ?_
    refine e_iload rfl rfl (xnm_no rfl) ?_
    obtain ⟨g14, h⟩ := xgd_some h
    refine e_irem rfl (xnz g14) rfl ?_
    exact xlfIc h
  · refine e_iconst (x := 0) rfl (by decide) (xnm_no rfl) ?_
    refine e_goto (t := 275) rfl rfl rfl ?_
    exact xlfIc h
set_option maxRecDepth 4000 in
theorem bL_law_1506_i (v5 : Nat) (s0 : Int32) (cc ss : Nat) (m : xmm) {z : Int32 × xmm} (h : (if s0 = 0 then xgd (Nat.ble cc (xmc 171) && Nat.ble ss (xms 171)) (some ((0 : Int32), m)) else xgd (Nat.ble cc (xmc 171) && Nat.ble ss (xms 171)) ((fX11_restore_0 (0 : Int32) m).bind fun (w2 : Int32 × xmm) => if w2.1 = 0 then some ((0 : Int32), w2.2) else xgd (Nat.ble (cc + 1) (xmc 171) && Nat.ble (ss + 70) (xms 171)) ((fL_kept_0 w2.2).bind fun (w5 : Nat × xmm) => xgr w5.1 fun k8 => xgd (!(Nat.beq v5 1999)) ((fL_same k8 v5 w5.2).bind fun (w11 : Int32 × xmm) => if w11.1 = 0 then some ((0 : Int32), w11.2) else (fX11_restore_0 (3 : Int32) w11.2).bind fun (w13 : Int32 × xmm) => if w13.1 = 0 then (fX11_hold_0 (-1 : Int32) w13.2).bind fun (w15 : Int32 × xmm) => if w15.1 = 0 then (fX11_count_0 (10 : Int32) w15.2).bind fun (w17 : Int32 × xmm) => if w17.1 = (3 : Int32) then some ((1 : Int32), w17.2) else some ((0 : Int32), w17.2) else some ((0 : Int32), w15.2) else some ((0 : Int32), w13.2))))) = some z) : bL_law_1506 v5 s0 cc ss m = some z := by
  refine xstIc ?_
  show xTc cc ss 171 20 1506 [(2, .ref 0), (5, .ref v5)] [.int s0] m (some (.int z.1), z.2)
  refine e_istore_n rfl rfl (xnm_no rfl) ?_
  refine e_iload_n rfl rfl (xnm_no rfl) ?_
  refine e_if_eq (t := 1561) rfl rfl (xnm_no rfl) (xnm_no rfl) h (fun h => ?_) (fun h => ?_)
  · refine e_iconst (x := 0) rfl (by decide) (xnm_no rfl) ?_
    obtain ⟨g1, h⟩ := xgd_some h
    cases h
    exact e_retIc rfl (by decide) g1
  · refine e_aload_n rfl rfl rfl (xnm_no rfl) ?_
    refine e_iconst (x := 0) rfl (by decide) (xnm_no rfl) ?_
    obtain ⟨g4, h⟩ := xgd_some h
    obtain ⟨w2, hw3, h⟩ := xbd_some h
    refine e_cIVc (hc := hw3) (rest := []) (c2 := cc) (s2 := ss) rfl rfl rfl rfl rfl rfl rfl (xadd0 rfl) (xadd0 rfl) g4 rfl (xnm_no rfl) ?_
    refine e_if_eq (t := 1561) rfl rfl (xnm_no rfl) (xnm_no rfl) h (fun h => ?_) (fun h => ?_)
    · refine e_iconst (x := 0) rfl (by decide) (xnm_no rfl) ?_
      cases h
      exact e_retIc rfl (by decide) g4
    · refine e_aload_n rfl rfl rfl (xnm_no rfl) ?_
      obtain ⟨g7, h⟩ := xgd_some h
      obtain ⟨w5, hw6, h⟩ := xbd_some h
      obtain ⟨k8, hk9, h⟩ := xgr_some h
      refine e_cRSc (k := k8) (hc := xr1 hw6 hk9) (rest := []) (c2 := (cc + 1)) (s2 := (ss + 70)) rfl rfl rfl rfl rfl rfl rfl rfl rfl g7 rfl (xnm_no rfl) ?_
      obtain ⟨g10, h⟩ := xgd_some h
      refine e_aload rfl rfl (xnb g10) (xnm_no rfl) ?_
      obtain ⟨w11, hw12, h⟩ := xbd_some h
      refine e_cISc (hc := hw12) (rest := []) (c2 := (cc + 1)) (s2 := (ss + 70)) rfl rfl rfl rfl rfl rfl rfl (xadd0 rfl) (xadd0 rfl) g7 rfl (xnm_no rfl) ?_
      refine e_if_eq (t := 1561) rfl rfl (xnm_no rfl) (xnm_no rfl) h (fun h => ?_) (fun h => ?_)
      · refine e_iconst (x := 0) rfl (by decide) (xnm_no rfl) ?_
        cases h
        exact e_retIc rfl (by decide) g7
      · refine e_aload_n rfl rfl rfl (xnm_no rfl) ?_
        refine e_iconst (x := 3) rfl (by decide) (xnm_no rfl) ?_
        obtain ⟨w13, hw14, h⟩ := xbd_some h
        refine e_cIVc (hc := hw14) (rest := []) (c2 := (cc + 1)) (s2 := (ss + 70)) rfl rfl rfl rfl rfl rfl rfl (xadd0 rfl) (xadd0 rfl) g7 rfl (xnm_no rfl) ?_
        refine e_if_ne (t := 1561) rfl rfl (xnm_no rfl) (xnm_no rfl) h (fun h => ?_) (fun h => ?_)
        · refine e_iconst (x := 0) rfl (by decide) (xnm_no rfl) ?_
          cases h
          exact e_retIc rfl (by decide) g7
        · refine e_aload_n rfl rfl rfl (xnm_no rfl) ?_
          refine e_iconst (x := -1) rfl (by decide) (xnm_no rfl) ?_
          obtain ⟨w15, hw16, h⟩ := xbd_some h
          refine e_cIVc (hc := hw16) (rest := []) (c2 := (cc + 1)) (s2 := (ss + 70)) rfl rfl rfl rfl rfl rfl rfl (xadd0 rfl) (xadd0 rfl) g7 rfl (xnm_no rfl) ?_
          refine e_if_ne (t := 1561) rfl rfl (xnm_no rfl) (xnm_no rfl) h (fun h => ?_) (fun h => ?_)
          · refine e_iconst (x := 0) rfl (by decide) (xnm_no rfl) ?_
            cases h
            exact e_retIc rfl (by decide) g7
          · refine e_aload_n rfl rfl rfl (xnm_no rfl) ?_
            refine e_bipush (x := 10) rfl (by decide) (xnm_no rfl) ?_
            obtain ⟨w17, hw18, h⟩ := xbd_some h
            refine e_cIVc (hc := hw18) (rest := []) (c2 := (cc + 1)) (s2 := (ss + 70)) rfl rfl rfl rfl rfl rfl rfl (xadd0 rfl) (xadd0 rfl) g7 rfl (xnm_no rfl) ?_
            refine e_iconst (x := 3) rfl (by decide) (xnm_no rfl) ?_
            refine e_icmp_ne (t := 1561) rfl rfl (xnm_no rfl) (xnm_no rfl) h (fun h => ?_) (fun h => ?_)
            · refine e_iconst (x := 0) rfl (by decide) (xnm_no rfl) ?_
              cases h
              exact e_retIc rfl (by decide) g7
            · refine e_iconst (x := 1) rfl (by decide) (xnm_no rfl) ?_
              refine e_goto (t := 1562) rfl rfl (xnm_no rfl) ?_
              cases h
              exact e_retIc rfl (by decide) g7
set_option maxRecDepth 4000 in
theorem bL_law_275_i (v3 : Int32) (v4 : Int32) (v5 : Nat) (v6 : Int32) (v7 : Int32) (v8 : Int32) (v9 : Int32) (v10 : Int32) (v11 : Nat) (s0 : Int32) (cc ss : Nat) (m : xmm) {z : Int32 × xmm} (h : (if v4 = 0 then bL_law_294 v3 v4 v5 v6 v7 v8 v9 v10 v11 s0 (0 : Int32) cc ss m else xgd (!(decide (v4 = 0))) (bL_law_294 v3 v4 v5 v6 v7 v8 v9 v10 v11 s0 ((v7 >>> ((6 : Int32) &&& 31)) - (v7 >>> ((6 : Int32) &&& 31)) / v4 * v4) cc ss m)) = some z) : bL_law_275 v3 v4 v5 v6 v7 v8 v9 v10 v11 s0 cc ss m = some z := by
  refine xstIc ?_
  show xTc cc ss 171 20 275 [(1, .ref 999), (2, .ref 0), (3, .int v3), (4, .int v4), (5, .ref v5), (6, .int v6), (7, .int v7), (8, .int v8), (9, .int v9), (10, .int v10), (11, .ref v11)] [.int s0] m (some (.int z.1), z.2)
  refine e_istore rfl rfl (xnm_no rfl) ?_
  refine e_iload rfl rfl (xnm_no rfl) ?_
  refine e_if_ne (t := 286) rfl rfl (xnm_no rfl) (xnm_no rfl) h (fun h => ?_) (fun h => ?_)
  · refine e_iload rfl rfl (xnm_no rfl) ?_
    refine e_bipush (x := 6) rfl (by decide) (xnm_no rfl) ?_
    refine e_ishr rfl (xnm_no rfl) ?_
    refine e_iload rfl rfl (xnm_no rfl) ?_
    obtain ⟨g1, h⟩ := xgd_some h
    refine e_irem rfl (xnz g1) rfl ?_
    exact xlfIc h
  · refine e_iconst (x := 0) rfl (by decide) (xnm_no rfl) ?_
    refine e_goto (t := 294) rfl rfl rfl ?_
    exact xlfIc h
set_option maxRecDepth 4000 in
theorem bL_law_294_i (v3 : Int32) (v4 : Int32) (v5 : Nat) (v6 : Int32) (v7 : Int32) (v8 : Int32) (v9 : Int32) (v10 : Int32) (v11 : Nat) (v12 : Int32) (s0 : Int32) (cc ss : Nat) (m : xmm) {z : Int32 × xmm} (h : (if v3 = 0 then bL_law_363 v4 v5 v6 v7 v8 v9 v10 v11 v12 s0 (0 : Int32) cc ss m else xgd (Nat.ble cc (xmc 171) && Nat.ble ss (xms 171)) ((fX11_hold_0 (1 : Int32) m).bind fun (w1 : Int32 × xmm) => if w1.1 = 0 then bL_law_363 v4 v5 v6 v7 v8 v9 v10 v11 v12 s0 (0 : Int32) cc ss w1.2 else (fX11_like_0 (1 : Int32) w1.2).bind fun (w4 : Int32 × xmm) => (fX11_count_0 (6 : Int32) w4.2).bind fun (w6 : Int32 × xmm) => if w4.1 = w6.1 then (fX11_colours_0 (0 : Int32) w6.2).bind fun (w8 : Int32 × xmm) => if v4 = 0 then bL_law_337 v4 v5 v6 v7 v8 v9 v10 v11 v12 s0 w8.1 (1 : Int32) cc ss w8.2 else bL_law_337 v4 v5 v6 v7 v8 v9 v10 v11 v12 s0 w8.1 (0 : Int32) cc ss w8.2 else bL_law_363 v4 v5 v6 v7 v8 v9 v10 v11 v12 s0 (0 : Int32) cc ss w6.2)) = some z) : bL_law_294 v3 v4 v5 v6 v7 v8 v9 v10 v11 v12 s0 cc ss m = some z := by
  refine xstIc ?_
  show xTc cc ss 171 20 294 [(1, .ref 999), (2, .ref 0), (3, .int v3), (4, .int v4), (5, .ref v5), (6, .int v6), (7, .int v7), (8, .int v8), (9, .int v9), (10, .int v10), (11, .ref v11), (12, .int v12)] [.int s0] m (some (.int z.1), z.2)
  refine e_istore rfl rfl (xnm_no rfl) ?_
  refine e_iload_n rfl rfl (xnm_no rfl) ?_
  refine e_if_eq (t := 362) rfl rfl (xnm_no rfl) (xnm_no rfl) h (fun h => ?_) (fun h => ?_)
  · refine e_iconst (x := 0) rfl (by decide) rfl ?_
    exact xlfIc h
  · refine e_aload_n rfl rfl rfl (xnm_no rfl) ?_
    refine e_iconst (x := 1) rfl (by decide) (xnm_no rfl) ?_
    obtain ⟨g3, h⟩ := xgd_some h
    obtain ⟨w1, hw2, h⟩ := xbd_some h
    refine e_cIVc (hc := hw2) (rest := []) (c2 := cc) (s2 := ss) rfl rfl rfl rfl rfl rfl rfl (xadd0 rfl) (xadd0 rfl) g3 rfl (xnm_no rfl) ?_
    refine e_if_eq (t := 362) rfl rfl (xnm_no rfl) (xnm_no rfl) h (fun h => ?_) (fun h => ?_)
    · refine e_iconst (x := 0) rfl (by decide) rfl ?_
      exact xlfIc h
    · refine e_aload_n rfl rfl rfl (xnm_no rfl) ?_
      refine e_iconst (x := 1) rfl (by decide) (xnm_no rfl) ?_
      obtain ⟨w4, hw5, h⟩ := xbd_some h
      refine e_cIVc (hc := hw5) (rest := []) (c2 := cc) (s2 := ss) rfl rfl rfl rfl rfl rfl rfl (xadd0 rfl) (xadd0 rfl) g3 rfl (xnm_no rfl) ?_
      refine e_aload_n rfl rfl rfl (xnm_no rfl) ?_
      refine e_bipush (x := 6) rfl (by decide) (xnm_no rfl) ?_
      obtain ⟨w6, hw7, h⟩ := xbd_some h
      refine e_cIVc (hc := hw7) (rest := [.int _]) (c2 := cc) (s2 := ss) rfl rfl rfl rfl rfl rfl rfl (xadd0 rfl) (xadd0 rfl) g3 rfl (xnm_no rfl) ?_
      refine e_icmp_ne (t := 362) rfl rfl (xnm_no rfl) (xnm_no rfl) h (fun h => ?_) (fun h => ?_)
      · refine e_iconst (x := 0) rfl (by decide) rfl ?_
        exact xlfIc h
      · refine e_aload_n rfl rfl rfl (xnm_no rfl) ?_
        refine e_iconst (x := 0) rfl (by decide) (xnm_no rfl) ?_
        obtain ⟨w8, hw9, h⟩ := xbd_some h
        refine e_cIVc (hc := hw9) (rest := []) (c2 := cc) (s2 := ss) rfl rfl rfl rfl rfl rfl rfl (xadd0 rfl) (xadd0 rfl) g3 rfl (xnm_no rfl) ?_
        refine e_iload rfl rfl (xnm_no rfl) ?_
        refine e_if_ne (t := 336) rfl rfl (xnm_no rfl) (xnm_no rfl) h (fun h => ?_) (fun h => ?_)
        · refine e_iconst (x := 0) rfl (by decide) rfl ?_
          exact xlfIc h
        · refine e_iconst (x := 1) rfl (by decide) (xnm_no rfl) ?_
          refine e_goto (t := 337) rfl rfl rfl ?_
          exact xlfIc h
set_option maxRecDepth 4000 in
theorem bL_law_363_i (v4 : Int32) (v5 : Nat) (v6 : Int32) (v7 : Int32) (v8 : Int32) (v9 : Int32) (v10 : Int32) (v11 : Nat) (v12 : Int32) (v13 : Int32) (s0 : Int32) (cc ss : Nat) (m : xmm) {z : Int32 × xmm} (h : (if (v7 - v7 / (6 : Int32) * (6 : Int32)) = 0 then if v4 ≤ 0 then bL_law_421 s0 v4 v5 v6 v7 v8 v11 v12 v13 (0 : Int32) cc ss m else if v12 = v13 then bL_law_421 s0 v4 v5 v6 v7 v8 v11 v12 v13 (0 : Int32) cc ss m else bL_law_421 s0 v4 v5 v6 v7 v8 v11 v12 v13 (1 : Int32) cc ss m else if (v7 - v7 / (6 : Int32) * (6 : Int32)) = 1 then xgd (Nat.ble cc (xmc 171) && Nat.ble ss (xms 171)) ((fX11_count_0 (5 : Int32) m).bind fun (w3 : Int32 × xmm) => (fX11_count_0 (4 : Int32) w3.2).bind fun (w6 : Int32 × xmm) => (fX11_count_0 (2 : Int32) w6.2).bind fun (w8 : Int32 × xmm) => (fX11_count_0 (6 : Int32) w8.2).bind fun (w10 : Int32 × xmm) => (fX11_network_0 (5 : Int32) w10.2).bind fun (w12 : Int32 × xmm) => if s0 = 0 then bL_law_784 v4 v5 v6 v7 v8 v9 v11 (0 : Int32) cc ss w12.2 else (fX11_other_0 w12.2).bind fun (w14 : Int32 × xmm) => if w14.1 = (((v4 * (v4 - (1 : Int32))) / (2 : Int32)) - v8) then (fX11_count_0 (4 : Int32) w14.2).bind fun (w16 : Int32 × xmm) => if w16.1 = w3.1 then (fX11_count_0 (5 : Int32) w16.2).bind fun (w18 : Int32 × xmm) => if w18.1 = w6.1 then (fX11_count_0 (2 : Int32) w18.2).bind fun (w20 : Int32 × xmm) => if w20.1 = w8.1 then (fX11_count_0 (6 : Int32) w20.2).bind fun (w22 : Int32 × xmm) => if w22.1 = w10.1 then (fX11_network_0 (5 : Int32) w22.2).bind fun (w24 : Int32 × xmm) => if w24.1 = w12.1 then (fX11_network_0 (6 : Int32) w24.2).bind fun (w26 : Int32 × xmm) => if w26.1 = v10 then bL_law_784 v4 v5 v6 v7 v8 v9 v11 (1 : Int32) cc ss w26.2 else bL_law_784 v4 v5 v6 v7 v8 v9 v11 (0 : Int32) cc ss w26.2 else bL_law_784 v4 v5 v6 v7 v8 v9 v11 (0 : Int32) cc ss w24.2 else bL_law_784 v4 v5 v6 v7 v8 v9 v11 (0 : Int32) cc ss w22.2 else bL_law_784 v4 v5 v6 v7 v8 v9 v11 (0 : Int32) cc ss w20.2 else bL_law_784 v4 v5 v6 v7 v8 v9 v11 (0 : Int32) cc ss w18.2 else bL_law_784 v4 v5 v6 v7 v8 v9 v11 (0 : Int32) cc ss w16.2 else bL_law_784 v4 v5 v6 v7 v8 v9 v11 (0 : Int32) cc ss w14.2) else if (v7 - v7 / (6 : Int32) * (6 : Int32)) = 2 then if v4 ≤ 0 then bL_law_883 s0 v4 v5 v6 v7 v8 v10 v11 v12 v13 (0 : Int32) cc ss m else if v12 = v13 then bL_law_883 s0 v4 v5 v6 v7 v8 v10 v11 v12 v13 (0 : Int32) cc ss m else bL_law_883 s0 v4 v5 v6 v7 v8 v10 v11 v12 v13 (1 : Int32) cc ss m else if (v7 - v7 / (6 : Int32) * (6 : Int32)) = 3 then if v4 = 0 then bL_law_1060 s0 v4 v5 v6 v7 v8 v9 v11 v12 (0 : Int32) cc ss m else xgd (Nat.ble cc (xmc 171) && Nat.ble ss (xms 171)) ((fX11_near_0 v12 m).bind fun (w30 : Int32 × xmm) => (fJ6_bitCount w30.1 w30.2).bind fun (w33 : Int32 × xmm) => bL_law_1060 s0 v4 v5 v6 v7 v8 v9 v11 v12 w33.1 cc ss w33.2) else if (v7 - v7 / (6 : Int32) * (6 : Int32)) = 4 then xgd (Nat.ble cc (xmc 171) && Nat.ble ss (xms 171)) ((fX11_count_0 (7 : Int32) m).bind fun (w36 : Int32 × xmm) => if s0 = 0 then bL_law_1253 v4 v5 v6 v7 v8 v10 v11 w36.1 (0 : Int32) cc ss w36.2 else (fX11_begin_0 w36.2).bind fun (w39 : Int32 × xmm) => if w36.1 = 0 then bL_law_1222 v4 v5 v6 v7 v8 v10 v11 w36.1 w39.1 (1 : Int32) cc ss w39.2 else bL_law_1222 v4 v5 v6 v7 v8 v10 v11 w36.1 w39.1 (0 : Int32) cc ss w39.2) else if ((v7 >>> ((5 : Int32) &&& 31)) &&& (1 : Int32)) = 0 then if s0 = 0 then bL_law_183 (0 : Int32) v4 v5 (v6 + (1 : Int32)) cc ss m else xgd (Nat.ble cc (xmc 171) && Nat.ble ss (xms 171)) ((fX11_restore_0 (0 : Int32) m).bind fun (w41 : Int32 × xmm) => if w41.1 = 0 then bL_law_183 (0 : Int32) v4 v5 (v6 + (1 : Int32)) cc ss w41.2 else xgd (Nat.ble (cc + 1) (xmc 171) && Nat.ble (ss + 70) (xms 171)) ((fL_kept_0 w41.2).bind fun (w44 : Nat × xmm) => xgr w44.1 fun k47 => xgd (!(Nat.beq v5 1999)) ((fL_same k47 v5 w44.2).bind fun (w50 : Int32 × xmm) => if w50.1 = 0 then bL_law_183 (0 : Int32) v4 v5 (v6 + (1 : Int32)) (cc + 1) (ss + 70) w50.2 else (fX11_count_0 (9 : Int32) w50.2).bind fun (w52 : Int32 × xmm) => if w52.1 = 0 then bL_law_183 (1 : Int32) v4 v5 (v6 + (1 : Int32)) (cc + 1) (ss + 70) w52.2 else bL_law_183 (0 : Int32) v4 v5 (v6 + (1 : Int32)) (cc + 1) (ss + 70) w52.2))) else bL_law_183 s0 v4 v5 (v6 + (1 : Int32)) cc ss m) = some z) : bL_law_363 v4 v5 v6 v7 v8 v9 v10 v11 v12 v13 s0 cc ss m = some z := by
  refine xstIc ?_
  show xTc cc ss 171 20 363 [(1, .ref 999), (2, .ref 0), (4, .int v4), (5, .ref v5), (6, .int v6), (7, .int v7), (8, .int v8), (9, .int v9), (10, .int v10), (11, .ref v11), (12, .int v12), (13, .int v13)] [.int s0] m (some (.int z.1), z.2)
  refine e_istore_n rfl rfl (xnm_no rfl) ?_
  refine e_iload rfl rfl (xnm_no rfl) ?_
  refine e_bipush (x := 6) rfl (by decide) (xnm_no rfl) ?_
  refine e_irem rfl (by decide) (xnm_no rfl) ?_
  by_cases c1 : (v7 - v7 / (6 : Int32) * (6 : Int32)) = 0
  · rw [if_pos c1] at h
    refine e_sw (t := 404) (o := 35) rfl (by decide) (xsw_p c1) rfl (xnm_no rfl) ?_
    refine e_iload rfl rfl (xnm_no rfl) ?_
    refine e_if_le (t := 420) rfl rfl (xnm_no rfl) (xnm_no rfl) h (fun h => ?_) (fun h => ?_)
    · refine e_iconst (x := 0) rfl (by decide) rfl ?_
      exact xlfIc h
    · refine e_iload rfl rfl (xnm_no rfl) ?_
      refine e_iload rfl rfl (xnm_no rfl) ?_
      refine e_icmp_eq (t := 420) rfl rfl (xnm_no rfl) (xnm_no rfl) h (fun h => ?_) (fun h => ?_)
      · refine e_iconst (x := 0) rfl (by decide) rfl ?_
        exact xlfIc h
      · refine e_iconst (x := 1) rfl (by decide) (xnm_no rfl) ?_
        refine e_goto (t := 421) rfl rfl rfl ?_
        exact xlfIc h
  · rw [if_neg c1] at h
    by_cases c2 : (v7 - v7 / (6 : Int32) * (6 : Int32)) = 1
    · rw [if_pos c2] at h
      refine e_sw (t := 658) (o := 289) rfl (by decide) (xsw_n c1 (xsw_p c2)) rfl (xnm_no rfl) ?_
      refine e_aload_n rfl rfl rfl (xnm_no rfl) ?_
      refine e_iconst (x := 5) rfl (by decide) (xnm_no rfl) ?_
      obtain ⟨g5, h⟩ := xgd_some h
      obtain ⟨w3, hw4, h⟩ := xbd_some h
      refine e_cIVc (hc := hw4) (rest := []) (c2 := cc) (s2 := ss) rfl rfl rfl rfl rfl rfl rfl (xadd0 rfl) (xadd0 rfl) g5 rfl (xnm_no rfl) ?_
      refine e_istore rfl rfl (xnm_no rfl) ?_
      refine e_aload_n rfl rfl rfl (xnm_no rfl) ?_
      refine e_iconst (x := 4) rfl (by decide) (xnm_no rfl) ?_
      obtain ⟨w6, hw7, h⟩ := xbd_some h
      refine e_cIVc (hc := hw7) (rest := []) (c2 := cc) (s2 := ss) rfl rfl rfl rfl rfl rfl rfl (xadd0 rfl) (xadd0 rfl) g5 rfl (xnm_no rfl) ?_
      refine e_istore rfl rfl (xnm_no rfl) ?_
      refine e_aload_n rfl rfl rfl (xnm_no rfl) ?_
      refine e_iconst (x := 2) rfl (by decide) (xnm_no rfl) ?_
      obtain ⟨w8, hw9, h⟩ := xbd_some h
      refine e_cIVc (hc := hw9) (rest := []) (c2 := cc) (s2 := ss) rfl rfl rfl rfl rfl rfl rfl (xadd0 rfl) (xadd0 rfl) g5 rfl (xnm_no rfl) ?_
      refine e_istore rfl rfl (xnm_no rfl) ?_
      refine e_aload_n rfl rfl rfl (xnm_no rfl) ?_
      refine e_bipush (x := 6) rfl (by decide) (xnm_no rfl) ?_
      obtain ⟨w10, hw11, h⟩ := xbd_some h
      refine e_cIVc (hc := hw11) (rest := []) (c2 := cc) (s2 := ss) rfl rfl rfl rfl rfl rfl rfl (xadd0 rfl) (xadd0 rfl) g5 rfl (xnm_no rfl) ?_
      refine e_istore rfl rfl (xnm_no rfl) ?_
      refine e_aload_n rfl rfl rfl (xnm_no rfl) ?_
      refine e_iconst (x := 5) rfl (by decide) (xnm_no rfl) ?_
      obtain ⟨w12, hw13, h⟩ := xbd_some h
      refine e_cIVc (hc := hw13) (rest := []) (c2 := cc) (s2 := ss) rfl rfl rfl rfl rfl rfl rfl (xadd0 rfl) (xadd0 rfl) g5 rfl (xnm_no rfl) ?_
      refine e_istore rfl rfl (xnm_no rfl) ?_
      refine e_iload_n rfl rfl (xnm_no rfl) ?_
      refine e_if_eq (t := 783) rfl rfl (xnm_no rfl) (xnm_no rfl) h (fun h => ?_) (fun h => ?_)
      · refine e_iconst (x := 0) rfl (by decide) rfl ?_
        exact xlfIc h
      · refine e_aload_n rfl rfl rfl (xnm_no rfl) ?_
        obtain ⟨w14, hw15, h⟩ := xbd_some h
        refine e_cIVc (hc := hw15) (rest := []) (c2 := cc) (s2 := ss) rfl rfl rfl rfl rfl rfl rfl (xadd0 rfl) (xadd0 rfl) g5 rfl (xnm_no rfl) ?_
        refine e_iload rfl rfl (xnm_no rfl) ?_
        refine e_iload rfl rfl (xnm_no rfl) ?_
        refine e_iconst (x := 1) rfl (by decide) (xnm_no rfl) ?_
        refine e_isub rfl (xnm_no rfl) ?_
        refine e_imul rfl (xnm_no rfl) ?_
        refine e_iconst (x := 2) rfl (by decide) (xnm_no rfl) ?_
        refine e_idiv rfl (by decide) (xnm_no rfl) ?_
        refine e_iload rfl rfl (xnm_no rfl) ?_
        refine e_isub rfl (xnm_no rfl) ?_
        refine e_icmp_ne (t := 783) rfl rfl (xnm_no rfl) (xnm_no rfl) h (fun h => ?_) (fun h => ?_)
        · refine e_iconst (x := 0) rfl (by decide) rfl ?_
          exact xlfIc h
        · refine e_aload_n rfl rfl rfl (xnm_no rfl) ?_
          refine e_iconst (x := 4) rfl (by decide) (xnm_no rfl) ?_
          obtain ⟨w16, hw17, h⟩ := xbd_some h
          refine e_cIVc (hc := hw17) (rest := []) (c2 := cc) (s2 := ss) rfl rfl rfl rfl rfl rfl rfl (xadd0 rfl) (xadd0 rfl) g5 rfl (xnm_no rfl) ?_
          refine e_iload rfl rfl (xnm_no rfl) ?_
          refine e_icmp_ne (t := 783) rfl rfl (xnm_no rfl) (xnm_no rfl) h (fun h => ?_) (fun h => ?_)
          · refine e_iconst (x := 0) rfl (by decide) rfl ?_
            exact xlfIc h
          · refine e_aload_n rfl rfl rfl (xnm_no rfl) ?_
            refine e_iconst (x := 5) rfl (by decide) (xnm_no rfl) ?_
            obtain ⟨w18, hw19, h⟩ := xbd_some h
            refine e_cIVc (hc := hw19) (rest := []) (c2 := cc) (s2 := ss) rfl rfl rfl rfl rfl rfl rfl (xadd0 rfl) (xadd0 rfl) g5 rfl (xnm_no rfl) ?_
            refine e_iload rfl rfl (xnm_no rfl) ?_
            refine e_icmp_ne (t := 783) rfl rfl (xnm_no rfl) (xnm_no rfl) h (fun h => ?_) (fun h => ?_)
            · refine e_iconst (x := 0) rfl (by decide) rfl ?_
              exact xlfIc h
            · refine e_aload_n rfl rfl rfl (xnm_no rfl) ?_
              refine e_iconst (x := 2) rfl (by decide) (xnm_no rfl) ?_
              obtain ⟨w20, hw21, h⟩ := xbd_some h
              refine e_cIVc (hc := hw21) (rest := []) (c2 := cc) (s2 := ss) rfl rfl rfl rfl rfl rfl rfl (xadd0 rfl) (xadd0 rfl) g5 rfl (xnm_no rfl) ?_
              refine e_iload rfl rfl (xnm_no rfl) ?_
              refine e_icmp_ne (t := 783) rfl rfl (xnm_no rfl) (xnm_no rfl) h (fun h => ?_) (fun h => ?_)
              · refine e_iconst (x := 0) rfl (by decide) rfl ?_
                exact xlfIc h
              · refine e_aload_n rfl rfl rfl (xnm_no rfl) ?_
                refine e_bipush (x := 6) rfl (by decide) (xnm_no rfl) ?_
                obtain ⟨w22, hw23, h⟩ := xbd_some h
                refine e_cIVc (hc := hw23) (rest := []) (c2 := cc) (s2 := ss) rfl rfl rfl rfl rfl rfl rfl (xadd0 rfl) (xadd0 rfl) g5 rfl (xnm_no rfl) ?_
                refine e_iload rfl rfl (xnm_no rfl) ?_
                refine e_icmp_ne (t := 783) rfl rfl (xnm_no rfl) (xnm_no rfl) h (fun h => ?_) (fun h => ?_)
                · refine e_iconst (x := 0) rfl (by decide) rfl ?_
                  exact xlfIc h
                · refine e_aload_n rfl rfl rfl (xnm_no rfl) ?_
                  refine e_iconst (x := 5) rfl (by decide) (xnm_no rfl) ?_
                  obtain ⟨w24, hw25, h⟩ := xbd_some h
                  refine e_cIVc (hc := hw25) (rest := []) (c2 := cc) (s2 := ss) rfl rfl rfl rfl rfl rfl rfl (xadd0 rfl) (xadd0 rfl) g5 rfl (xnm_no rfl) ?_
                  refine e_iload rfl rfl (xnm_no rfl) ?_
                  refine e_icmp_ne (t := 783) rfl rfl (xnm_no rfl) (xnm_no rfl) h (fun h => ?_) (fun h => ?_)
                  · refine e_iconst (x := 0) rfl (by decide) rfl ?_
                    exact xlfIc h
                  · refine e_aload_n rfl rfl rfl (xnm_no rfl) ?_
                    refine e_bipush (x := 6) rfl (by decide) (xnm_no rfl) ?_
                    obtain ⟨w26, hw27, h⟩ := xbd_some h
                    refine e_cIVc (hc := hw27) (rest := []) (c2 := cc) (s2 := ss) rfl rfl rfl rfl rfl rfl rfl (xadd0 rfl) (xadd0 rfl) g5 rfl (xnm_no rfl) ?_
                    refine e_iload rfl rfl (xnm_no rfl) ?_
                    refine e_icmp_ne (t := 783) rfl rfl (xnm_no rfl) (xnm_no rfl) h (fun h => ?_) (fun h => ?_)
                    · refine e_iconst (x := 0) rfl (by decide) rfl ?_
                      exact xlfIc h
                    · refine e_iconst (x := 1) rfl (by decide) (xnm_no rfl) ?_
                      refine e_goto (t := 784) rfl rfl rfl ?_
                      exact xlfIc h
    · rw [if_neg c2] at h
      by_cases c28 : (v7 - v7 / (6 : Int32) * (6 : Int32)) = 2
      · rw [if_pos c28] at h
        refine e_sw (t := 866) (o := 497) rfl (by decide) (xsw_n c1 (xsw_n c2 (xsw_p c28))) rfl (xnm_no rfl) ?_
        refine e_iload rfl rfl (xnm_no rfl) ?_
        refine e_if_le (t := 882) rfl rfl (xnm_no rfl) (xnm_no rfl) h (fun h => ?_) (fun h => ?_)
        · refine e_iconst (x := 0) rfl (by decide) rfl ?_
          exact xlfIc h
        · refine e_iload rfl rfl (xnm_no rfl) ?_
          refine e_iload rfl rfl (xnm_no rfl) ?_
          refine e_icmp_eq (t := 882) rfl rfl (xnm_no rfl) (xnm_no rfl) h (fun h => ?_) (fun h => ?_)
          · refine e_iconst (x := 0) rfl (by decide) rfl ?_
            exact xlfIc h
          · refine e_iconst (x := 1) rfl (by decide) (xnm_no rfl) ?_
            refine e_goto (t := 883) rfl rfl rfl ?_
            exact xlfIc h
      · rw [if_neg c28] at h
        by_cases c29 : (v7 - v7 / (6 : Int32) * (6 : Int32)) = 3
        · rw [if_pos c29] at h
          refine e_sw (t := 1042) (o := 673) rfl (by decide) (xsw_n c1 (xsw_n c2 (xsw_n c28 (xsw_p c29)))) rfl (xnm_no rfl) ?_
          refine e_iload rfl rfl (xnm_no rfl) ?_
          refine e_if_ne (t := 1051) rfl rfl (xnm_no rfl) (xnm_no rfl) h (fun h => ?_) (fun h => ?_)
          · refine e_aload_n rfl rfl rfl (xnm_no rfl) ?_
            refine e_iload rfl rfl (xnm_no rfl) ?_
            obtain ⟨g32, h⟩ := xgd_some h
            obtain ⟨w30, hw31, h⟩ := xbd_some h
            refine e_cIVc (hc := hw31) (rest := []) (c2 := cc) (s2 := ss) rfl rfl rfl rfl rfl rfl rfl (xadd0 rfl) (xadd0 rfl) g32 rfl (xnm_no rfl) ?_
            obtain ⟨w33, hw34, h⟩ := xbd_some h
            refine e_cISc (hc := hw34) (rest := []) (c2 := cc) (s2 := ss) rfl rfl rfl rfl rfl rfl rfl (xadd0 rfl) (xadd0 rfl) g32 rfl rfl ?_
            exact xlfIc h
          · refine e_iconst (x := 0) rfl (by decide) (xnm_no rfl) ?_
            refine e_goto (t := 1060) rfl rfl rfl ?_
            exact xlfIc h
        · rw [if_neg c29] at h
          by_cases c35 : (v7 - v7 / (6 : Int32) * (6 : Int32)) = 4
          · rw [if_pos c35] at h
            refine e_sw (t := 1196) (o := 827) rfl (by decide) (xsw_n c1 (xsw_n c2 (xsw_n c28 (xsw_n c29 (xsw_p c35))))) rfl (xnm_no rfl) ?_
            refine e_aload_n rfl rfl rfl (xnm_no rfl) ?_
            refine e_bipush (x := 7) rfl (by decide) (xnm_no rfl) ?_
            obtain ⟨g38, h⟩ := xgd_some h
            obtain ⟨w36, hw37, h⟩ := xbd_some h
            refine e_cIVc (hc := hw37) (rest := []) (c2 := cc) (s2 := ss) rfl rfl rfl rfl rfl rfl rfl (xadd0 rfl) (xadd0 rfl) g38 rfl (xnm_no rfl) ?_
            refine e_istore rfl rfl (xnm_no rfl) ?_
            refine e_iload_n rfl rfl (xnm_no rfl) ?_
            refine e_if_eq (t := 1252) rfl rfl (xnm_no rfl) (xnm_no rfl) h (fun h => ?_) (fun h => ?_)
            · refine e_iconst (x := 0) rfl (by decide) rfl ?_
              exact xlfIc h
            · refine e_aload_n rfl rfl rfl (xnm_no rfl) ?_
              obtain ⟨w39, hw40, h⟩ := xbd_some h
              refine e_cIVc (hc := hw40) (rest := []) (c2 := cc) (s2 := ss) rfl rfl rfl rfl rfl rfl rfl (xadd0 rfl) (xadd0 rfl) g38 rfl (xnm_no rfl) ?_
              refine e_iload rfl rfl (xnm_no rfl) ?_
              refine e_if_ne (t := 1221) rfl rfl (xnm_no rfl) (xnm_no rfl) h (fun h => ?_) (fun h => ?_)
              · refine e_iconst (x := 0) rfl (by decide) rfl ?_
                exact xlfIc h
              · refine e_iconst (x := 1) rfl (by decide) (xnm_no rfl) ?_
                refine e_goto (t := 1222) rfl rfl rfl ?_
                exact xlfIc h
          · rw [if_neg c35] at h
            refine e_sw (t := 1395) (o := 1026) rfl (by decide) (xsw_n c1 (xsw_n c2 (xsw_n c28 (xsw_n c29 (xsw_n c35 xsw_d))))) rfl (xnm_no rfl) ?_
            refine e_iload rfl rfl (xnm_no rfl) ?_
            refine e_iconst (x := 5) rfl (by decide) (xnm_no rfl) ?_
            refine e_ishr rfl (xnm_no rfl) ?_
            refine e_iconst (x := 1) rfl (by decide) (xnm_no rfl) ?_
            refine e_iand rfl (xnm_no rfl) ?_
            refine e_if_ne (t := 1443) rfl rfl (xnm_no rfl) (xnm_no rfl) h (fun h => ?_) (fun h => ?_)
            · refine e_iinc (y := 1) rfl rfl rfl (by decide) (xnm_no rfl) ?_
              refine e_goto (t := 183) rfl rfl rfl ?_
              exact xlfIc h
            · refine e_iload_n rfl rfl (xnm_no rfl) ?_
              refine e_if_eq (t := 1441) rfl rfl (xnm_no rfl) (xnm_no rfl) h (fun h => ?_) (fun h => ?_)
              · refine e_iconst (x := 0) rfl (by decide) (xnm_no rfl) ?_
                refine e_istore_n rfl rfl (xnm_no rfl) ?_
                refine e_iinc (y := 1) rfl rfl rfl (by decide) (xnm_no rfl) ?_
                refine e_goto (t := 183) rfl rfl rfl ?_
                exact xlfIc h
              · refine e_aload_n rfl rfl rfl (xnm_no rfl) ?_
                refine e_iconst (x := 0) rfl (by decide) (xnm_no rfl) ?_
                obtain ⟨g43, h⟩ := xgd_some h
                obtain ⟨w41, hw42, h⟩ := xbd_some h
                refine e_cIVc (hc := hw42) (rest := []) (c2 := cc) (s2 := ss) rfl rfl rfl rfl rfl rfl rfl (xadd0 rfl) (xadd0 rfl) g43 rfl (xnm_no rfl) ?_
                refine e_if_eq (t := 1441) rfl rfl (xnm_no rfl) (xnm_no rfl) h (fun h => ?_) (fun h => ?_)
                · refine e_iconst (x := 0) rfl (by decide) (xnm_no rfl) ?_
                  refine e_istore_n rfl rfl (xnm_no rfl) ?_
                  refine e_iinc (y := 1) rfl rfl rfl (by decide) (xnm_no rfl) ?_
                  refine e_goto (t := 183) rfl rfl rfl ?_
                  exact xlfIc h
                · refine e_aload_n rfl rfl rfl (xnm_no rfl) ?_
                  obtain ⟨g46, h⟩ := xgd_some h
                  obtain ⟨w44, hw45, h⟩ := xbd_some h
                  obtain ⟨k47, hk48, h⟩ := xgr_some h
                  refine e_cRSc (k := k47) (hc := xr1 hw45 hk48) (rest := []) (c2 := (cc + 1)) (s2 := (ss + 70)) rfl rfl rfl rfl rfl rfl rfl rfl rfl g46 rfl (xnm_no rfl) ?_
                  obtain ⟨g49, h⟩ := xgd_some h
                  refine e_aload rfl rfl (xnb g49) (xnm_no rfl) ?_
                  obtain ⟨w50, hw51, h⟩ := xbd_some h
                  refine e_cISc (hc := hw51) (rest := []) (c2 := (cc + 1)) (s2 := (ss + 70)) rfl rfl rfl rfl rfl rfl rfl (xadd0 rfl) (xadd0 rfl) g46 rfl (xnm_no rfl) ?_
                  refine e_if_eq (t := 1441) rfl rfl (xnm_no rfl) (xnm_no rfl) h (fun h => ?_) (fun h => ?_)
                  · refine e_iconst (x := 0) rfl (by decide) (xnm_no rfl) ?_
                    refine e_istore_n rfl rfl (xnm_no rfl) ?_
                    refine e_iinc (y := 1) rfl rfl rfl (by decide) (xnm_no rfl) ?_
                    refine e_goto (t := 183) rfl rfl rfl ?_
                    exact xlfIc h
                  · refine e_aload_n rfl rfl rfl (xnm_no rfl) ?_
                    refine e_bipush (x := 9) rfl (by decide) (xnm_no rfl) ?_
                    obtain ⟨w52, hw53, h⟩ := xbd_some h
                    refine e_cIVc (hc := hw53) (rest := []) (c2 := (cc + 1)) (s2 := (ss + 70)) rfl rfl rfl rfl rfl rfl rfl (xadd0 rfl) (xadd0 rfl) g46 rfl (xnm_no rfl) ?_
                    refine e_if_ne (t := 1441) rfl rfl (xnm_no rfl) (xnm_no rfl) h (fun h => ?_) (fun h => ?_)
                    · refine e_iconst (x := 0) rfl (by decide) (xnm_no rfl) ?_
                      refine e_istore_n rfl rfl (xnm_no rfl) ?_
                      refine e_iinc (y := 1) rfl rfl rfl (by decide) (xnm_no rfl) ?_
                      refine e_goto (t := 183) rfl rfl rfl ?_
                      exact xlfIc h
                    · refine e_iconst (x := 1) rfl (by decide) (xnm_no rfl) ?_
                      refine e_goto (t := 1442) rfl rfl (xnm_no rfl) ?_
                      refine e_istore_n rfl rfl (xnm_no rfl) ?_
                      refine e_iinc (y := 1) rfl rfl rfl (by decide) (xnm_no rfl) ?_
                      refine e_goto (t := 183) rfl rfl rfl ?_
                      exact xlfIc h
set_option maxRecDepth 4000 in
theorem bL_law_337_i (v4 : Int32) (v5 : Nat) (v6 : Int32) (v7 : Int32) (v8 : Int32) (v9 : Int32) (v10 : Int32) (v11 : Nat) (v12 : Int32) (v13 : Int32) (s0 : Int32) (s1 : Int32) (cc ss : Nat) (m : xmm) {z : Int32 × xmm} (h : (if s0 = s1 then xgd (Nat.ble cc (xmc 171) && Nat.ble ss (xms 171)) ((fX11_colours_0 (1 : Int32) m).bind fun (w1 : Int32 × xmm) => if v8 = 0 then if w1.1 = (1 : Int32) then bL_law_363 v4 v5 v6 v7 v8 v9 v10 v11 v12 v13 (1 : Int32) cc ss w1.2 else bL_law_363 v4 v5 v6 v7 v8 v9 v10 v11 v12 v13 (0 : Int32) cc ss w1.2 else if w1.1 = (0 : Int32) then bL_law_363 v4 v5 v6 v7 v8 v9 v10 v11 v12 v13 (1 : Int32) cc ss w1.2 else bL_law_363 v4 v5 v6 v7 v8 v9 v10 v11 v12 v13 (0 : Int32) cc ss w1.2) else bL_law_363 v4 v5 v6 v7 v8 v9 v10 v11 v12 v13 (0 : Int32) cc ss m) = some z) : bL_law_337 v4 v5 v6 v7 v8 v9 v10 v11 v12 v13 s0 s1 cc ss m = some z := by
  refine xstIc ?_
  show xTc cc ss 171 20 337 [(1, .ref 999), (2, .ref 0), (4, .int v4), (5, .ref v5), (6, .int v6), (7, .int v7), (8, .int v8), (9, .int v9), (10, .int v10), (11, .ref v11), (12, .int v12), (13, .int v13)] [.int s1, .int s0] m (some (.int z.1), z.2)
  refine e_icmp_ne (t := 362) rfl rfl (xnm_no rfl) (xnm_no rfl) h (fun h => ?_) (fun h => ?_)
  · refine e_iconst (x := 0) rfl (by decide) rfl ?_
    exact xlfIc h
  · refine e_aload_n rfl rfl rfl (xnm_no rfl) ?_
    refine e_iconst (x := 1) rfl (by decide) (xnm_no rfl) ?_
    obtain ⟨g3, h⟩ := xgd_some h
    obtain ⟨w1, hw2, h⟩ := xbd_some h
    refine e_cIVc (hc := hw2) (rest := []) (c2 := cc) (s2 := ss) rfl rfl rfl rfl rfl rfl rfl (xadd0 rfl) (xadd0 rfl) g3 rfl (xnm_no rfl) ?_
    refine e_iload rfl rfl (xnm_no rfl) ?_
    refine e_if_ne (t := 354) rfl rfl (xnm_no rfl) (xnm_no rfl) h (fun h => ?_) (fun h => ?_)
    · refine e_iconst (x := 0) rfl (by decide) (xnm_no rfl) ?_
      refine e_icmp_ne (t := 362) rfl rfl (xnm_no rfl) (xnm_no rfl) h (fun h => ?_) (fun h => ?_)
      · refine e_iconst (x := 0) rfl (by decide) rfl ?_
        exact xlfIc h
      · refine e_iconst (x := 1) rfl (by decide) (xnm_no rfl) ?_
        refine e_goto (t := 363) rfl rfl rfl ?_
        exact xlfIc h
    · refine e_iconst (x := 1) rfl (by decide) (xnm_no rfl) ?_
      refine e_goto (t := 355) rfl rfl (xnm_no rfl) ?_
      refine e_icmp_ne (t := 362) rfl rfl (xnm_no rfl) (xnm_no rfl) h (fun h => ?_) (fun h => ?_)
      · refine e_iconst (x := 0) rfl (by decide) rfl ?_
        exact xlfIc h
      · refine e_iconst (x := 1) rfl (by decide) (xnm_no rfl) ?_
        refine e_goto (t := 363) rfl rfl rfl ?_
        exact xlfIc h
set_option maxRecDepth 4000 in
theorem bL_law_421_i (v3 : Int32) (v4 : Int32) (v5 : Nat) (v6 : Int32) (v7 : Int32) (v8 : Int32) (v11 : Nat) (v12 : Int32) (v13 : Int32) (s0 : Int32) (cc ss : Nat) (m : xmm) {z : Int32 × xmm} (h : (xgd (Nat.ble cc (xmc 171) && Nat.ble ss (xms 171)) ((fX11_colours_0 (3 : Int32) m).bind fun (w1 : Int32 × xmm) => if v4 ≤ 0 then bL_law_455 v3 v4 v5 v6 v7 v8 v11 v12 v13 s0 w1.1 (0 : Int32) cc ss w1.2 else (fX11_near_0 v12 w1.2).bind fun (w4 : Int32 × xmm) => if ((w4.1 >>> (v13 &&& 31)) &&& (1 : Int32)) = (1 : Int32) then bL_law_455 v3 v4 v5 v6 v7 v8 v11 v12 v13 s0 w1.1 (1 : Int32) cc ss w4.2 else bL_law_455 v3 v4 v5 v6 v7 v8 v11 v12 v13 s0 w1.1 (0 : Int32) cc ss w4.2)) = some z) : bL_law_421 v3 v4 v5 v6 v7 v8 v11 v12 v13 s0 cc ss m = some z := by
  refine xstIc ?_
  show xTc cc ss 171 20 421 [(1, .ref 999), (2, .ref 0), (3, .int v3), (4, .int v4), (5, .ref v5), (6, .int v6), (7, .int v7), (8, .int v8), (11, .ref v11), (12, .int v12), (13, .int v13)] [.int s0] m (some (.int z.1), z.2)
  refine e_istore rfl rfl (xnm_no rfl) ?_
  refine e_aload_n rfl rfl rfl (xnm_no rfl) ?_
  refine e_iconst (x := 3) rfl (by decide) (xnm_no rfl) ?_
  obtain ⟨g3, h⟩ := xgd_some h
  obtain ⟨w1, hw2, h⟩ := xbd_some h
  refine e_cIVc (hc := hw2) (rest := []) (c2 := cc) (s2 := ss) rfl rfl rfl rfl rfl rfl rfl (xadd0 rfl) (xadd0 rfl) g3 rfl (xnm_no rfl) ?_
  refine e_istore rfl rfl (xnm_no rfl) ?_
  refine e_iload rfl rfl (xnm_no rfl) ?_
  refine e_if_le (t := 454) rfl rfl (xnm_no rfl) (xnm_no rfl) h (fun h => ?_) (fun h => ?_)
  · refine e_iconst (x := 0) rfl (by decide) rfl ?_
    exact xlfIc h
  · refine e_aload_n rfl rfl rfl (xnm_no rfl) ?_
    refine e_iload rfl rfl (xnm_no rfl) ?_
    obtain ⟨w4, hw5, h⟩ := xbd_some h
    refine e_cIVc (hc := hw5) (rest := []) (c2 := cc) (s2 := ss) rfl rfl rfl rfl rfl rfl rfl (xadd0 rfl) (xadd0 rfl) g3 rfl (xnm_no rfl) ?_
    refine e_iload rfl rfl (xnm_no rfl) ?_
    refine e_ishr rfl (xnm_no rfl) ?_
    refine e_iconst (x := 1) rfl (by decide) (xnm_no rfl) ?_
    refine e_iand rfl (xnm_no rfl) ?_
    refine e_iconst (x := 1) rfl (by decide) (xnm_no rfl) ?_
    refine e_icmp_ne (t := 454) rfl rfl (xnm_no rfl) (xnm_no rfl) h (fun h => ?_) (fun h => ?_)
    · refine e_iconst (x := 0) rfl (by decide) rfl ?_
      exact xlfIc h
    · refine e_iconst (x := 1) rfl (by decide) (xnm_no rfl) ?_
      refine e_goto (t := 455) rfl rfl rfl ?_
      exact xlfIc h
set_option maxRecDepth 4000 in
theorem bL_law_784_i (v4 : Int32) (v5 : Nat) (v6 : Int32) (v7 : Int32) (v8 : Int32) (v9 : Int32) (v11 : Nat) (s0 : Int32) (cc ss : Nat) (m : xmm) {z : Int32 × xmm} (h : (if ((v7 >>> ((9 : Int32) &&& 31)) &&& (1 : Int32)) = 0 then if s0 = 0 then bL_law_183 (0 : Int32) v4 v5 (v6 + (1 : Int32)) cc ss m else xgd (Nat.ble cc (xmc 171) && Nat.ble ss (xms 171)) ((fX11_other_0 m).bind fun (w1 : Int32 × xmm) => if w1.1 = v8 then xgd (Nat.ble (cc + 1) (xmc 171) && Nat.ble (ss + 70) (xms 171)) ((fL_kept_0 w1.2).bind fun (w4 : Nat × xmm) => xgr w4.1 fun k7 => xgd (!(Nat.beq v11 1999)) ((fL_same k7 v11 w4.2).bind fun (w10 : Int32 × xmm) => if w10.1 = 0 then bL_law_183 (0 : Int32) v4 v5 (v6 + (1 : Int32)) (cc + 1) (ss + 70) w10.2 else (fX11_undo_0 w10.2).bind fun (w12 : Int32 × xmm) => if w12.1 = 0 then bL_law_183 (0 : Int32) v4 v5 (v6 + (1 : Int32)) (cc + 1) (ss + 70) w12.2 else (fX11_undo_0 w12.2).bind fun (w14 : Int32 × xmm) => if w14.1 = 0 then bL_law_183 (0 : Int32) v4 v5 (v6 + (1 : Int32)) (cc + 1) (ss + 70) w14.2 else xgd (Nat.ble ((cc + 1) + 1) (xmc 171) && Nat.ble ((ss + 70) + 70) (xms 171)) ((fL_kept_0 w14.2).bind fun (w16 : Nat × xmm) => xgr w16.1 fun k19 => (fL_same k19 v11 w16.2).bind fun (w21 : Int32 × xmm) => if w21.1 = 0 then bL_law_183 (0 : Int32) v4 v5 (v6 + (1 : Int32)) ((cc + 1) + 1) ((ss + 70) + 70) w21.2 else (fX11_count_0 (9 : Int32) w21.2).bind fun (w23 : Int32 × xmm) => if w23.1 = v9 then bL_law_183 (1 : Int32) v4 v5 (v6 + (1 : Int32)) ((cc + 1) + 1) ((ss + 70) + 70) w23.2 else bL_law_183 (0 : Int32) v4 v5 (v6 + (1 : Int32)) ((cc + 1) + 1) ((ss + 70) + 70) w23.2))) else bL_law_183 (0 : Int32) v4 v5 (v6 + (1 : Int32)) cc ss w1.2) else bL_law_183 s0 v4 v5 (v6 + (1 : Int32)) cc ss m) = some z) : bL_law_784 v4 v5 v6 v7 v8 v9 v11 s0 cc ss m = some z := by
  refine xstIc ?_
  show xTc cc ss 171 20 784 [(1, .ref 999), (2, .ref 0), (4, .int v4), (5, .ref v5), (6, .int v6), (7, .int v7), (8, .int v8), (9, .int v9), (11, .ref v11)] [.int s0] m (some (.int z.1), z.2)
  refine e_istore_n rfl rfl (xnm_no rfl) ?_
  refine e_iload rfl rfl (xnm_no rfl) ?_
  refine e_bipush (x := 9) rfl (by decide) (xnm_no rfl) ?_
  refine e_ishr rfl (xnm_no rfl) ?_
  refine e_iconst (x := 1) rfl (by decide) (xnm_no rfl) ?_
  refine e_iand rfl (xnm_no rfl) ?_
  refine e_if_ne (t := 1443) rfl rfl (xnm_no rfl) (xnm_no rfl) h (fun h => ?_) (fun h => ?_)
  · refine e_iinc (y := 1) rfl rfl rfl (by decide) (xnm_no rfl) ?_
    refine e_goto (t := 183) rfl rfl rfl ?_
    exact xlfIc h
  · refine e_iload_n rfl rfl (xnm_no rfl) ?_
    refine e_if_eq (t := 861) rfl rfl (xnm_no rfl) (xnm_no rfl) h (fun h => ?_) (fun h => ?_)
    · refine e_iconst (x := 0) rfl (by decide) (xnm_no rfl) ?_
      refine e_istore_n rfl rfl (xnm_no rfl) ?_
      refine e_goto (t := 1443) rfl rfl (xnm_no rfl) ?_
      refine e_iinc (y := 1) rfl rfl rfl (by decide) (xnm_no rfl) ?_
      refine e_goto (t := 183) rfl rfl rfl ?_
      exact xlfIc h
    · refine e_aload_n rfl rfl rfl (xnm_no rfl) ?_
      obtain ⟨g3, h⟩ := xgd_some h
      obtain ⟨w1, hw2, h⟩ := xbd_some h
      refine e_cIVc (hc := hw2) (rest := []) (c2 := cc) (s2 := ss) rfl rfl rfl rfl rfl rfl rfl (xadd0 rfl) (xadd0 rfl) g3 rfl (xnm_no rfl) ?_
      refine e_iload rfl rfl (xnm_no rfl) ?_
      refine e_icmp_ne (t := 861) rfl rfl (xnm_no rfl) (xnm_no rfl) h (fun h => ?_) (fun h => ?_)
      · refine e_iconst (x := 0) rfl (by decide) (xnm_no rfl) ?_
        refine e_istore_n rfl rfl (xnm_no rfl) ?_
        refine e_goto (t := 1443) rfl rfl (xnm_no rfl) ?_
        refine e_iinc (y := 1) rfl rfl rfl (by decide) (xnm_no rfl) ?_
        refine e_goto (t := 183) rfl rfl rfl ?_
        exact xlfIc h
      · refine e_aload_n rfl rfl rfl (xnm_no rfl) ?_
        obtain ⟨g6, h⟩ := xgd_some h
        obtain ⟨w4, hw5, h⟩ := xbd_some h
        obtain ⟨k7, hk8, h⟩ := xgr_some h
        refine e_cRSc (k := k7) (hc := xr1 hw5 hk8) (rest := []) (c2 := (cc + 1)) (s2 := (ss + 70)) rfl rfl rfl rfl rfl rfl rfl rfl rfl g6 rfl (xnm_no rfl) ?_
        obtain ⟨g9, h⟩ := xgd_some h
        refine e_aload rfl rfl (xnb g9) (xnm_no rfl) ?_
        obtain ⟨w10, hw11, h⟩ := xbd_some h
        refine e_cISc (hc := hw11) (rest := []) (c2 := (cc + 1)) (s2 := (ss + 70)) rfl rfl rfl rfl rfl rfl rfl (xadd0 rfl) (xadd0 rfl) g6 rfl (xnm_no rfl) ?_
        refine e_if_eq (t := 861) rfl rfl (xnm_no rfl) (xnm_no rfl) h (fun h => ?_) (fun h => ?_)
        · refine e_iconst (x := 0) rfl (by decide) (xnm_no rfl) ?_
          refine e_istore_n rfl rfl (xnm_no rfl) ?_
          refine e_goto (t := 1443) rfl rfl (xnm_no rfl) ?_
          refine e_iinc (y := 1) rfl rfl rfl (by decide) (xnm_no rfl) ?_
          refine e_goto (t := 183) rfl rfl rfl ?_
          exact xlfIc h
        · refine e_aload_n rfl rfl rfl (xnm_no rfl) ?_
          obtain ⟨w12, hw13, h⟩ := xbd_some h
          refine e_cIVc (hc := hw13) (rest := []) (c2 := (cc + 1)) (s2 := (ss + 70)) rfl rfl rfl rfl rfl rfl rfl (xadd0 rfl) (xadd0 rfl) g6 rfl (xnm_no rfl) ?_
          refine e_if_eq (t := 861) rfl rfl (xnm_no rfl) (xnm_no rfl) h (fun h => ?_) (fun h => ?_)
          · refine e_iconst (x := 0) rfl (by decide) (xnm_no rfl) ?_
            refine e_istore_n rfl rfl (xnm_no rfl) ?_
            refine e_goto (t := 1443) rfl rfl (xnm_no rfl) ?_
            refine e_iinc (y := 1) rfl rfl rfl (by decide) (xnm_no rfl) ?_
            refine e_goto (t := 183) rfl rfl rfl ?_
            exact xlfIc h
          · refine e_aload_n rfl rfl rfl (xnm_no rfl) ?_
            obtain ⟨w14, hw15, h⟩ := xbd_some h
            refine e_cIVc (hc := hw15) (rest := []) (c2 := (cc + 1)) (s2 := (ss + 70)) rfl rfl rfl rfl rfl rfl rfl (xadd0 rfl) (xadd0 rfl) g6 rfl (xnm_no rfl) ?_
            refine e_if_eq (t := 861) rfl rfl (xnm_no rfl) (xnm_no rfl) h (fun h => ?_) (fun h => ?_)
            · refine e_iconst (x := 0) rfl (by decide) (xnm_no rfl) ?_
              refine e_istore_n rfl rfl (xnm_no rfl) ?_
              refine e_goto (t := 1443) rfl rfl (xnm_no rfl) ?_
              refine e_iinc (y := 1) rfl rfl rfl (by decide) (xnm_no rfl) ?_
              refine e_goto (t := 183) rfl rfl rfl ?_
              exact xlfIc h
            · refine e_aload_n rfl rfl rfl (xnm_no rfl) ?_
              obtain ⟨g18, h⟩ := xgd_some h
              obtain ⟨w16, hw17, h⟩ := xbd_some h
              obtain ⟨k19, hk20, h⟩ := xgr_some h
              refine e_cRSc (k := k19) (hc := xr1 hw17 hk20) (rest := []) (c2 := ((cc + 1) + 1)) (s2 := ((ss + 70) + 70)) rfl rfl rfl rfl rfl rfl rfl rfl rfl g18 rfl (xnm_no rfl) ?_
              refine e_aload rfl rfl (xnb g9) (xnm_no rfl) ?_
              obtain ⟨w21, hw22, h⟩ := xbd_some h
              refine e_cISc (hc := hw22) (rest := []) (c2 := ((cc + 1) + 1)) (s2 := ((ss + 70) + 70)) rfl rfl rfl rfl rfl rfl rfl (xadd0 rfl) (xadd0 rfl) g18 rfl (xnm_no rfl) ?_
              refine e_if_eq (t := 861) rfl rfl (xnm_no rfl) (xnm_no rfl) h (fun h => ?_) (fun h => ?_)
              · refine e_iconst (x := 0) rfl (by decide) (xnm_no rfl) ?_
                refine e_istore_n rfl rfl (xnm_no rfl) ?_
                refine e_goto (t := 1443) rfl rfl (xnm_no rfl) ?_
                refine e_iinc (y := 1) rfl rfl rfl (by decide) (xnm_no rfl) ?_
                refine e_goto (t := 183) rfl rfl rfl ?_
                exact xlfIc h
              · refine e_aload_n rfl rfl rfl (xnm_no rfl) ?_
                refine e_bipush (x := 9) rfl (by decide) (xnm_no rfl) ?_
                obtain ⟨w23, hw24, h⟩ := xbd_some h
                refine e_cIVc (hc := hw24) (rest := []) (c2 := ((cc + 1) + 1)) (s2 := ((ss + 70) + 70)) rfl rfl rfl rfl rfl rfl rfl (xadd0 rfl) (xadd0 rfl) g18 rfl (xnm_no rfl) ?_
                refine e_iload rfl rfl (xnm_no rfl) ?_
                refine e_icmp_ne (t := 861) rfl rfl (xnm_no rfl) (xnm_no rfl) h (fun h => ?_) (fun h => ?_)
                · refine e_iconst (x := 0) rfl (by decide) (xnm_no rfl) ?_
                  refine e_istore_n rfl rfl (xnm_no rfl) ?_
                  refine e_goto (t := 1443) rfl rfl (xnm_no rfl) ?_
                  refine e_iinc (y := 1) rfl rfl rfl (by decide) (xnm_no rfl) ?_
                  refine e_goto (t := 183) rfl rfl rfl ?_
                  exact xlfIc h
                · refine e_iconst (x := 1) rfl (by decide) (xnm_no rfl) ?_
                  refine e_goto (t := 862) rfl rfl (xnm_no rfl) ?_
                  refine e_istore_n rfl rfl (xnm_no rfl) ?_
                  refine e_goto (t := 1443) rfl rfl (xnm_no rfl) ?_
                  refine e_iinc (y := 1) rfl rfl rfl (by decide) (xnm_no rfl) ?_
                  refine e_goto (t := 183) rfl rfl rfl ?_
                  exact xlfIc h
set_option maxRecDepth 4000 in
theorem bL_law_883_i (v3 : Int32) (v4 : Int32) (v5 : Nat) (v6 : Int32) (v7 : Int32) (v8 : Int32) (v10 : Int32) (v11 : Nat) (v12 : Int32) (v13 : Int32) (s0 : Int32) (cc ss : Nat) (m : xmm) {z : Int32 × xmm} (h : (xgd (Nat.ble cc (xmc 171) && Nat.ble ss (xms 171)) ((fX11_count_0 (6 : Int32) m).bind fun (w1 : Int32 × xmm) => (fX11_network_0 (3 : Int32) w1.2).bind fun (w4 : Int32 × xmm) => (fX11_count_0 (3 : Int32) w4.2).bind fun (w6 : Int32 × xmm) => if v3 = 0 then bL_law_990 v4 v5 v6 v7 v11 v12 v13 s0 (0 : Int32) cc ss w6.2 else (fX11_exchange_0 v12 v13 w6.2).bind fun (w8 : Int32 × xmm) => if w8.1 = s0 then (fX11_count_0 (1 : Int32) w8.2).bind fun (w10 : Int32 × xmm) => if w10.1 = v8 then (fX11_network_0 (0 : Int32) w10.2).bind fun (w12 : Int32 × xmm) => if w12.1 = v10 then (fX11_count_0 (6 : Int32) w12.2).bind fun (w14 : Int32 × xmm) => if w14.1 = w1.1 then (fX11_network_0 (3 : Int32) w14.2).bind fun (w16 : Int32 × xmm) => if w16.1 = w4.1 then (fX11_count_0 (3 : Int32) w16.2).bind fun (w18 : Int32 × xmm) => if w18.1 = w6.1 then (fX11_like_0 (1 : Int32) w18.2).bind fun (w20 : Int32 × xmm) => if w20.1 = w1.1 then bL_law_990 v4 v5 v6 v7 v11 v12 v13 s0 (1 : Int32) cc ss w20.2 else bL_law_990 v4 v5 v6 v7 v11 v12 v13 s0 (0 : Int32) cc ss w20.2 else bL_law_990 v4 v5 v6 v7 v11 v12 v13 s0 (0 : Int32) cc ss w18.2 else bL_law_990 v4 v5 v6 v7 v11 v12 v13 s0 (0 : Int32) cc ss w16.2 else bL_law_990 v4 v5 v6 v7 v11 v12 v13 s0 (0 : Int32) cc ss w14.2 else bL_law_990 v4 v5 v6 v7 v11 v12 v13 s0 (0 : Int32) cc ss w12.2 else bL_law_990 v4 v5 v6 v7 v11 v12 v13 s0 (0 : Int32) cc ss w10.2 else bL_law_990 v4 v5 v6 v7 v11 v12 v13 s0 (0 : Int32) cc ss w8.2)) = some z) : bL_law_883 v3 v4 v5 v6 v7 v8 v10 v11 v12 v13 s0 cc ss m = some z := by
  refine xstIc ?_
  show xTc cc ss 171 20 883 [(1, .ref 999), (2, .ref 0), (3, .int v3), (4, .int v4), (5, .ref v5), (6, .int v6), (7, .int v7), (8, .int v8), (10, .int v10), (11, .ref v11), (12, .int v12), (13, .int v13)] [.int s0] m (some (.int z.1), z.2)
  refine e_istore rfl rfl (xnm_no rfl) ?_
  refine e_aload_n rfl rfl rfl (xnm_no rfl) ?_
  refine e_bipush (x := 6) rfl (by decide) (xnm_no rfl) ?_
  obtain ⟨g3, h⟩ := xgd_some h
  obtain ⟨w1, hw2, h⟩ := xbd_some h
  refine e_cIVc (hc := hw2) (rest := []) (c2 := cc) (s2 := ss) rfl rfl rfl rfl rfl rfl rfl (xadd0 rfl) (xadd0 rfl) g3 rfl (xnm_no rfl) ?_
  refine e_istore rfl rfl (xnm_no rfl) ?_
  refine e_aload_n rfl rfl rfl (xnm_no rfl) ?_
  refine e_iconst (x := 3) rfl (by decide) (xnm_no rfl) ?_
  obtain ⟨w4, hw5, h⟩ := xbd_some h
  refine e_cIVc (hc := hw5) (rest := []) (c2 := cc) (s2 := ss) rfl rfl rfl rfl rfl rfl rfl (xadd0 rfl) (xadd0 rfl) g3 rfl (xnm_no rfl) ?_
  refine e_istore rfl rfl (xnm_no rfl) ?_
  refine e_aload_n rfl rfl rfl (xnm_no rfl) ?_
  refine e_iconst (x := 3) rfl (by decide) (xnm_no rfl) ?_
  obtain ⟨w6, hw7, h⟩ := xbd_some h
  refine e_cIVc (hc := hw7) (rest := []) (c2 := cc) (s2 := ss) rfl rfl rfl rfl rfl rfl rfl (xadd0 rfl) (xadd0 rfl) g3 rfl (xnm_no rfl) ?_
  refine e_istore rfl rfl (xnm_no rfl) ?_
  refine e_iload_n rfl rfl (xnm_no rfl) ?_
  refine e_if_eq (t := 989) rfl rfl (xnm_no rfl) (xnm_no rfl) h (fun h => ?_) (fun h => ?_)
  · refine e_iconst (x := 0) rfl (by decide) rfl ?_
    exact xlfIc h
  · refine e_aload_n rfl rfl rfl (xnm_no rfl) ?_
    refine e_iload rfl rfl (xnm_no rfl) ?_
    refine e_iload rfl rfl (xnm_no rfl) ?_
    obtain ⟨w8, hw9, h⟩ := xbd_some h
    refine e_cIVc (hc := hw9) (rest := []) (c2 := cc) (s2 := ss) rfl rfl rfl rfl rfl rfl rfl (xadd0 rfl) (xadd0 rfl) g3 rfl (xnm_no rfl) ?_
    refine e_iload rfl rfl (xnm_no rfl) ?_
    refine e_icmp_ne (t := 989) rfl rfl (xnm_no rfl) (xnm_no rfl) h (fun h => ?_) (fun h => ?_)
    · refine e_iconst (x := 0) rfl (by decide) rfl ?_
      exact xlfIc h
    · refine e_aload_n rfl rfl rfl (xnm_no rfl) ?_
      refine e_iconst (x := 1) rfl (by decide) (xnm_no rfl) ?_
      obtain ⟨w10, hw11, h⟩ := xbd_some h
      refine e_cIVc (hc := hw11) (rest := []) (c2 := cc) (s2 := ss) rfl rfl rfl rfl rfl rfl rfl (xadd0 rfl) (xadd0 rfl) g3 rfl (xnm_no rfl) ?_
      refine e_iload rfl rfl (xnm_no rfl) ?_
      refine e_icmp_ne (t := 989) rfl rfl (xnm_no rfl) (xnm_no rfl) h (fun h => ?_) (fun h => ?_)
      · refine e_iconst (x := 0) rfl (by decide) rfl ?_
        exact xlfIc h
      · refine e_aload_n rfl rfl rfl (xnm_no rfl) ?_
        refine e_iconst (x := 0) rfl (by decide) (xnm_no rfl) ?_
        obtain ⟨w12, hw13, h⟩ := xbd_some h
        refine e_cIVc (hc := hw13) (rest := []) (c2 := cc) (s2 := ss) rfl rfl rfl rfl rfl rfl rfl (xadd0 rfl) (xadd0 rfl) g3 rfl (xnm_no rfl) ?_
        refine e_iload rfl rfl (xnm_no rfl) ?_
        refine e_icmp_ne (t := 989) rfl rfl (xnm_no rfl) (xnm_no rfl) h (fun h => ?_) (fun h => ?_)
        · refine e_iconst (x := 0) rfl (by decide) rfl ?_
          exact xlfIc h
        · refine e_aload_n rfl rfl rfl (xnm_no rfl) ?_
          refine e_bipush (x := 6) rfl (by decide) (xnm_no rfl) ?_
          obtain ⟨w14, hw15, h⟩ := xbd_some h
          refine e_cIVc (hc := hw15) (rest := []) (c2 := cc) (s2 := ss) rfl rfl rfl rfl rfl rfl rfl (xadd0 rfl) (xadd0 rfl) g3 rfl (xnm_no rfl) ?_
          refine e_iload rfl rfl (xnm_no rfl) ?_
          refine e_icmp_ne (t := 989) rfl rfl (xnm_no rfl) (xnm_no rfl) h (fun h => ?_) (fun h => ?_)
          · refine e_iconst (x := 0) rfl (by decide) rfl ?_
            exact xlfIc h
          · refine e_aload_n rfl rfl rfl (xnm_no rfl) ?_
            refine e_iconst (x := 3) rfl (by decide) (xnm_no rfl) ?_
            obtain ⟨w16, hw17, h⟩ := xbd_some h
            refine e_cIVc (hc := hw17) (rest := []) (c2 := cc) (s2 := ss) rfl rfl rfl rfl rfl rfl rfl (xadd0 rfl) (xadd0 rfl) g3 rfl (xnm_no rfl) ?_
            refine e_iload rfl rfl (xnm_no rfl) ?_
            refine e_icmp_ne (t := 989) rfl rfl (xnm_no rfl) (xnm_no rfl) h (fun h => ?_) (fun h => ?_)
            · refine e_iconst (x := 0) rfl (by decide) rfl ?_
              exact xlfIc h
            · refine e_aload_n rfl rfl rfl (xnm_no rfl) ?_
              refine e_iconst (x := 3) rfl (by decide) (xnm_no rfl) ?_
              obtain ⟨w18, hw19, h⟩ := xbd_some h
              refine e_cIVc (hc := hw19) (rest := []) (c2 := cc) (s2 := ss) rfl rfl rfl rfl rfl rfl rfl (xadd0 rfl) (xadd0 rfl) g3 rfl (xnm_no rfl) ?_
              refine e_iload rfl rfl (xnm_no rfl) ?_
              refine e_icmp_ne (t := 989) rfl rfl (xnm_no rfl) (xnm_no rfl) h (fun h => ?_) (fun h => ?_)
              · refine e_iconst (x := 0) rfl (by decide) rfl ?_
                exact xlfIc h
              · refine e_aload_n rfl rfl rfl (xnm_no rfl) ?_
                refine e_iconst (x := 1) rfl (by decide) (xnm_no rfl) ?_
                obtain ⟨w20, hw21, h⟩ := xbd_some h
                refine e_cIVc (hc := hw21) (rest := []) (c2 := cc) (s2 := ss) rfl rfl rfl rfl rfl rfl rfl (xadd0 rfl) (xadd0 rfl) g3 rfl (xnm_no rfl) ?_
                refine e_iload rfl rfl (xnm_no rfl) ?_
                refine e_icmp_ne (t := 989) rfl rfl (xnm_no rfl) (xnm_no rfl) h (fun h => ?_) (fun h => ?_)
                · refine e_iconst (x := 0) rfl (by decide) rfl ?_
                  exact xlfIc h
                · refine e_iconst (x := 1) rfl (by decide) (xnm_no rfl) ?_
                  refine e_goto (t := 990) rfl rfl rfl ?_
                  exact xlfIc h
set_option maxRecDepth 4000 in
theorem bL_law_1060_i (v3 : Int32) (v4 : Int32) (v5 : Nat) (v6 : Int32) (v7 : Int32) (v8 : Int32) (v9 : Int32) (v11 : Nat) (v12 : Int32) (s0 : Int32) (cc ss : Nat) (m : xmm) {z : Int32 × xmm} (h : (xgd (Nat.ble cc (xmc 171) && Nat.ble ss (xms 171)) ((fX11_network_0 (7 : Int32) m).bind fun (w1 : Int32 × xmm) => if v3 = 0 then bL_law_1137 v4 v5 v6 v7 v9 v11 s0 (0 : Int32) cc ss w1.2 else (fX11_bare_0 v12 w1.2).bind fun (w4 : Int32 × xmm) => if v4 = 0 then bL_law_1091 v4 v5 v6 v7 v8 v9 v11 v12 s0 w1.1 w4.1 (-1 : Int32) cc ss w4.2 else bL_law_1091 v4 v5 v6 v7 v8 v9 v11 v12 s0 w1.1 w4.1 s0 cc ss w4.2)) = some z) : bL_law_1060 v3 v4 v5 v6 v7 v8 v9 v11 v12 s0 cc ss m = some z := by
  refine xstIc ?_
  show xTc cc ss 171 20 1060 [(1, .ref 999), (2, .ref 0), (3, .int v3), (4, .int v4), (5, .ref v5), (6, .int v6), (7, .int v7), (8, .int v8), (9, .int v9), (11, .ref v11), (12, .int v12)] [.int s0] m (some (.int z.1), z.2)
  refine e_istore rfl rfl (xnm_no rfl) ?_
  refine e_aload_n rfl rfl rfl (xnm_no rfl) ?_
  refine e_bipush (x := 7) rfl (by decide) (xnm_no rfl) ?_
  obtain ⟨g3, h⟩ := xgd_some h
  obtain ⟨w1, hw2, h⟩ := xbd_some h
  refine e_cIVc (hc := hw2) (rest := []) (c2 := cc) (s2 := ss) rfl rfl rfl rfl rfl rfl rfl (xadd0 rfl) (xadd0 rfl) g3 rfl (xnm_no rfl) ?_
  refine e_istore rfl rfl (xnm_no rfl) ?_
  refine e_iload_n rfl rfl (xnm_no rfl) ?_
  refine e_if_eq (t := 1136) rfl rfl (xnm_no rfl) (xnm_no rfl) h (fun h => ?_) (fun h => ?_)
  · refine e_iconst (x := 0) rfl (by decide) rfl ?_
    exact xlfIc h
  · refine e_aload_n rfl rfl rfl (xnm_no rfl) ?_
    refine e_iload rfl rfl (xnm_no rfl) ?_
    obtain ⟨w4, hw5, h⟩ := xbd_some h
    refine e_cIVc (hc := hw5) (rest := []) (c2 := cc) (s2 := ss) rfl rfl rfl rfl rfl rfl rfl (xadd0 rfl) (xadd0 rfl) g3 rfl (xnm_no rfl) ?_
    refine e_iload rfl rfl (xnm_no rfl) ?_
    refine e_if_ne (t := 1089) rfl rfl (xnm_no rfl) (xnm_no rfl) h (fun h => ?_) (fun h => ?_)
    · refine e_iload rfl rfl rfl ?_
      exact xlfIc h
    · refine e_iconst (x := -1) rfl (by decide) (xnm_no rfl) ?_
      refine e_goto (t := 1091) rfl rfl rfl ?_
      exact xlfIc h
set_option maxRecDepth 4000 in
theorem bL_law_1253_i (v4 : Int32) (v5 : Nat) (v6 : Int32) (v7 : Int32) (v8 : Int32) (v10 : Int32) (v11 : Nat) (v14 : Int32) (s0 : Int32) (cc ss : Nat) (m : xmm) {z : Int32 × xmm} (h : (if v10 = (1 : Int32) then if v8 ≤ 0 then bL_law_1335 s0 v4 v5 v6 v7 v11 v14 cc ss m else if s0 = 0 then bL_law_1335 (0 : Int32) v4 v5 v6 v7 v11 v14 cc ss m else xgd (Nat.ble cc (xmc 171) && Nat.ble ss (xms 171)) ((fX11_of_0 (0 : Int32) (3 : Int32) m).bind fun (w1 : Int32 × xmm) => if w1.1 = v14 then (fX11_of_0 (0 : Int32) (2 : Int32) w1.2).bind fun (w4 : Int32 × xmm) => if w4.1 = 0 then (fX11_order_0 (2 : Int32) w4.2).bind fun (w6 : Int32 × xmm) => xgd (!(Nat.beq v11 1999)) (xgd (xir w6.2 v11 (18 : Int32)) (if w6.1 = (w6.2.1 v11 18) then (fX11_order_0 (4 : Int32) w6.2).bind fun (w10 : Int32 × xmm) => xgd (xir w10.2 v11 (20 : Int32)) (if w10.1 = (w10.2.1 v11 20) then (fX11_order_0 (6 : Int32) w10.2).bind fun (w13 : Int32 × xmm) => xgd (xir w13.2 v11 (22 : Int32)) (if w13.1 = (w13.2.1 v11 22) then bL_law_1335 (1 : Int32) v4 v5 v6 v7 v11 v14 cc ss w13.2 else bL_law_1335 (0 : Int32) v4 v5 v6 v7 v11 v14 cc ss w13.2) else bL_law_1335 (0 : Int32) v4 v5 v6 v7 v11 v14 cc ss w10.2) else bL_law_1335 (0 : Int32) v4 v5 v6 v7 v11 v14 cc ss w6.2)) else bL_law_1335 (0 : Int32) v4 v5 v6 v7 v11 v14 cc ss w4.2 else bL_law_1335 (0 : Int32) v4 v5 v6 v7 v11 v14 cc ss w1.2) else bL_law_1335 s0 v4 v5 v6 v7 v11 v14 cc ss m) = some z) : bL_law_1253 v4 v5 v6 v7 v8 v10 v11 v14 s0 cc ss m = some z := by
  refine xstIc ?_
  show xTc cc ss 171 20 1253 [(1, .ref 999), (2, .ref 0), (4, .int v4), (5, .ref v5), (6, .int v6), (7, .int v7), (8, .int v8), (10, .int v10), (11, .ref v11), (14, .int v14)] [.int s0] m (some (.int z.1), z.2)
  refine e_istore_n rfl rfl (xnm_no rfl) ?_
  refine e_iload rfl rfl (xnm_no rfl) ?_
  refine e_iconst (x := 1) rfl (by decide) (xnm_no rfl) ?_
  refine e_icmp_ne (t := 1335) rfl rfl rfl (xnm_no rfl) h (fun h => ?_) (fun h => ?_)
  · exact xlfIc h
  · refine e_iload rfl rfl (xnm_no rfl) ?_
    refine e_if_le (t := 1335) rfl rfl rfl (xnm_no rfl) h (fun h => ?_) (fun h => ?_)
    · exact xlfIc h
    · refine e_iload_n rfl rfl (xnm_no rfl) ?_
      refine e_if_eq (t := 1333) rfl rfl (xnm_no rfl) (xnm_no rfl) h (fun h => ?_) (fun h => ?_)
      · refine e_iconst (x := 0) rfl (by decide) (xnm_no rfl) ?_
        refine e_istore_n rfl rfl rfl ?_
        exact xlfIc h
      · refine e_aload_n rfl rfl rfl (xnm_no rfl) ?_
        refine e_iconst (x := 0) rfl (by decide) (xnm_no rfl) ?_
        refine e_iconst (x := 3) rfl (by decide) (xnm_no rfl) ?_
        obtain ⟨g3, h⟩ := xgd_some h
        obtain ⟨w1, hw2, h⟩ := xbd_some h
        refine e_cIVc (hc := hw2) (rest := []) (c2 := cc) (s2 := ss) rfl rfl rfl rfl rfl rfl rfl (xadd0 rfl) (xadd0 rfl) g3 rfl (xnm_no rfl) ?_
        refine e_iload rfl rfl (xnm_no rfl) ?_
        refine e_icmp_ne (t := 1333) rfl rfl (xnm_no rfl) (xnm_no rfl) h (fun h => ?_) (fun h => ?_)
        · refine e_iconst (x := 0) rfl (by decide) (xnm_no rfl) ?_
          refine e_istore_n rfl rfl rfl ?_
          exact xlfIc h
        · refine e_aload_n rfl rfl rfl (xnm_no rfl) ?_
          refine e_iconst (x := 0) rfl (by decide) (xnm_no rfl) ?_
          refine e_iconst (x := 2) rfl (by decide) (xnm_no rfl) ?_
          obtain ⟨w4, hw5, h⟩ := xbd_some h
          refine e_cIVc (hc := hw5) (rest := []) (c2 := cc) (s2 := ss) rfl rfl rfl rfl rfl rfl rfl (xadd0 rfl) (xadd0 rfl) g3 rfl (xnm_no rfl) ?_
          refine e_if_ne (t := 1333) rfl rfl (xnm_no rfl) (xnm_no rfl) h (fun h => ?_) (fun h => ?_)
          · refine e_iconst (x := 0) rfl (by decide) (xnm_no rfl) ?_
            refine e_istore_n rfl rfl rfl ?_
            exact xlfIc h
          · refine e_aload_n rfl rfl rfl (xnm_no rfl) ?_
            refine e_iconst (x := 2) rfl (by decide) (xnm_no rfl) ?_
            obtain ⟨w6, hw7, h⟩ := xbd_some h
            refine e_cIVc (hc := hw7) (rest := []) (c2 := cc) (s2 := ss) rfl rfl rfl rfl rfl rfl rfl (xadd0 rfl) (xadd0 rfl) g3 rfl (xnm_no rfl) ?_
            obtain ⟨g8, h⟩ := xgd_some h
            refine e_aload rfl rfl (xnb g8) (xnm_no rfl) ?_
            refine e_bipush (x := 18) rfl (by decide) (xnm_no rfl) ?_
            obtain ⟨g9, h⟩ := xgd_some h
            refine e_rald rfl g9 (xnm_no rfl) ?_
            refine e_icmp_ne (t := 1333) rfl rfl (xnm_no rfl) (xnm_no rfl) h (fun h => ?_) (fun h => ?_)
            · refine e_iconst (x := 0) rfl (by decide) (xnm_no rfl) ?_
              refine e_istore_n rfl rfl rfl ?_
              exact xlfIc h
            · refine e_aload_n rfl rfl rfl (xnm_no rfl) ?_
              refine e_iconst (x := 4) rfl (by decide) (xnm_no rfl) ?_
              obtain ⟨w10, hw11, h⟩ := xbd_some h
              refine e_cIVc (hc := hw11) (rest := []) (c2 := cc) (s2 := ss) rfl rfl rfl rfl rfl rfl rfl (xadd0 rfl) (xadd0 rfl) g3 rfl (xnm_no rfl) ?_
              refine e_aload rfl rfl (xnb g8) (xnm_no rfl) ?_
              refine e_bipush (x := 20) rfl (by decide) (xnm_no rfl) ?_
              obtain ⟨g12, h⟩ := xgd_some h
              refine e_rald rfl g12 (xnm_no rfl) ?_
              refine e_icmp_ne (t := 1333) rfl rfl (xnm_no rfl) (xnm_no rfl) h (fun h => ?_) (fun h => ?_)
              · refine e_iconst (x := 0) rfl (by decide) (xnm_no rfl) ?_
                refine e_istore_n rfl rfl rfl ?_
                exact xlfIc h
              · refine e_aload_n rfl rfl rfl (xnm_no rfl) ?_
                refine e_bipush (x := 6) rfl (by decide) (xnm_no rfl) ?_
                obtain ⟨w13, hw14, h⟩ := xbd_some h
                refine e_cIVc (hc := hw14) (rest := []) (c2 := cc) (s2 := ss) rfl rfl rfl rfl rfl rfl rfl (xadd0 rfl) (xadd0 rfl) g3 rfl (xnm_no rfl) ?_
                refine e_aload rfl rfl (xnb g8) (xnm_no rfl) ?_
                refine e_bipush (x := 22) rfl (by decide) (xnm_no rfl) ?_
                obtain ⟨g15, h⟩ := xgd_some h
                refine e_rald rfl g15 (xnm_no rfl) ?_
                refine e_icmp_ne (t := 1333) rfl rfl (xnm_no rfl) (xnm_no rfl) h (fun h => ?_) (fun h => ?_)
                · refine e_iconst (x := 0) rfl (by decide) (xnm_no rfl) ?_
                  refine e_istore_n rfl rfl rfl ?_
                  exact xlfIc h
                · refine e_iconst (x := 1) rfl (by decide) (xnm_no rfl) ?_
                  refine e_goto (t := 1334) rfl rfl (xnm_no rfl) ?_
                  refine e_istore_n rfl rfl rfl ?_
                  exact xlfIc h
set_option maxRecDepth 4000 in
theorem bL_law_1222_i (v4 : Int32) (v5 : Nat) (v6 : Int32) (v7 : Int32) (v8 : Int32) (v10 : Int32) (v11 : Nat) (v14 : Int32) (s0 : Int32) (s1 : Int32) (cc ss : Nat) (m : xmm) {z : Int32 × xmm} (h : (if s0 = s1 then xgd (Nat.ble cc (xmc 171) && Nat.ble ss (xms 171)) ((fX11_network_0 (0 : Int32) m).bind fun (w1 : Int32 × xmm) => if w1.1 = v10 then (fX11_network_0 (3 : Int32) w1.2).bind fun (w4 : Int32 × xmm) => xgd (!(Nat.beq v11 1999)) (xgd (xir w4.2 v11 (11 : Int32)) (if w4.1 = (w4.2.1 v11 11) then bL_law_1253 v4 v5 v6 v7 v8 v10 v11 v14 (1 : Int32) cc ss w4.2 else bL_law_1253 v4 v5 v6 v7 v8 v10 v11 v14 (0 : Int32) cc ss w4.2)) else bL_law_1253 v4 v5 v6 v7 v8 v10 v11 v14 (0 : Int32) cc ss w1.2) else bL_law_1253 v4 v5 v6 v7 v8 v10 v11 v14 (0 : Int32) cc ss m) = some z) : bL_law_1222 v4 v5 v6 v7 v8 v10 v11 v14 s0 s1 cc ss m = some z := by
  refine xstIc ?_
  show xTc cc ss 171 20 1222 [(1, .ref 999), (2, .ref 0), (4, .int v4), (5, .ref v5), (6, .int v6), (7, .int v7), (8, .int v8), (10, .int v10), (11, .ref v11), (14, .int v14)] [.int s1, .int s0] m (some (.int z.1), z.2)
  refine e_icmp_ne (t := 1252) rfl rfl (xnm_no rfl) (xnm_no rfl) h (fun h => ?_) (fun h => ?_)
  · refine e_iconst (x := 0) rfl (by decide) rfl ?_
    exact xlfIc h
  · refine e_aload_n rfl rfl rfl (xnm_no rfl) ?_
    refine e_iconst (x := 0) rfl (by decide) (xnm_no rfl) ?_
    obtain ⟨g3, h⟩ := xgd_some h
    obtain ⟨w1, hw2, h⟩ := xbd_some h
    refine e_cIVc (hc := hw2) (rest := []) (c2 := cc) (s2 := ss) rfl rfl rfl rfl rfl rfl rfl (xadd0 rfl) (xadd0 rfl) g3 rfl (xnm_no rfl) ?_
    refine e_iload rfl rfl (xnm_no rfl) ?_
    refine e_icmp_ne (t := 1252) rfl rfl (xnm_no rfl) (xnm_no rfl) h (fun h => ?_) (fun h => ?_)
    · refine e_iconst (x := 0) rfl (by decide) rfl ?_
      exact xlfIc h
    · refine e_aload_n rfl rfl rfl (xnm_no rfl) ?_
      refine e_iconst (x := 3) rfl (by decide) (xnm_no rfl) ?_
      obtain ⟨w4, hw5, h⟩ := xbd_some h
      refine e_cIVc (hc := hw5) (rest := []) (c2 := cc) (s2 := ss) rfl rfl rfl rfl rfl rfl rfl (xadd0 rfl) (xadd0 rfl) g3 rfl (xnm_no rfl) ?_
      obtain ⟨g6, h⟩ := xgd_some h
      refine e_aload rfl rfl (xnb g6) (xnm_no rfl) ?_
      refine e_bipush (x := 11) rfl (by decide) (xnm_no rfl) ?_
      obtain ⟨g7, h⟩ := xgd_some h
      refine e_rald rfl g7 (xnm_no rfl) ?_
      refine e_icmp_ne (t := 1252) rfl rfl (xnm_no rfl) (xnm_no rfl) h (fun h => ?_) (fun h => ?_)
      · refine e_iconst (x := 0) rfl (by decide) rfl ?_
        exact xlfIc h
      · refine e_iconst (x := 1) rfl (by decide) (xnm_no rfl) ?_
        refine e_goto (t := 1253) rfl rfl rfl ?_
        exact xlfIc h
set_option maxRecDepth 4000 in
theorem bL_law_455_i (v3 : Int32) (v4 : Int32) (v5 : Nat) (v6 : Int32) (v7 : Int32) (v8 : Int32) (v11 : Nat) (v12 : Int32) (v13 : Int32) (v14 : Int32) (v15 : Int32) (s0 : Int32) (cc ss : Nat) (m : xmm) {z : Int32 × xmm} (h : (if v3 = 0 then bL_law_509 v4 v5 v6 v7 v11 v12 v13 v14 v15 s0 (0 : Int32) cc ss m else xgd (Nat.ble cc (xmc 171) && Nat.ble ss (xms 171)) ((fX11_line_0 v12 v13 m).bind fun (w1 : Int32 × xmm) => if w1.1 = v14 then (fX11_count_0 (1 : Int32) w1.2).bind fun (w4 : Int32 × xmm) => if v14 = 0 then if w4.1 = (v8 + (0 : Int32)) then bL_law_509 v4 v5 v6 v7 v11 v12 v13 v14 v15 s0 (1 : Int32) cc ss w4.2 else bL_law_509 v4 v5 v6 v7 v11 v12 v13 v14 v15 s0 (0 : Int32) cc ss w4.2 else if s0 = 0 then if w4.1 = (v8 + (1 : Int32)) then bL_law_509 v4 v5 v6 v7 v11 v12 v13 v14 v15 s0 (1 : Int32) cc ss w4.2 else bL_law_509 v4 v5 v6 v7 v11 v12 v13 v14 v15 s0 (0 : Int32) cc ss w4.2 else if w4.1 = (v8 + (-1 : Int32)) then bL_law_509 v4 v5 v6 v7 v11 v12 v13 v14 v15 s0 (1 : Int32) cc ss w4.2 else bL_law_509 v4 v5 v6 v7 v11 v12 v13 v14 v15 s0 (0 : Int32) cc ss w4.2 else bL_law_509 v4 v5 v6 v7 v11 v12 v13 v14 v15 s0 (0 : Int32) cc ss w1.2)) = some z) : bL_law_455 v3 v4 v5 v6 v7 v8 v11 v12 v13 v14 v15 s0 cc ss m = some z := by
  refine xstIc ?_
  show xTc cc ss 171 20 455 [(1, .ref 999), (2, .ref 0), (3, .int v3), (4, .int v4), (5, .ref v5), (6, .int v6), (7, .int v7), (8, .int v8), (11, .ref v11), (12, .int v12), (13, .int v13), (14, .int v14), (15, .int v15)] [.int s0] m (some (.int z.1), z.2)
  refine e_istore rfl rfl (xnm_no rfl) ?_
  refine e_iload_n rfl rfl (xnm_no rfl) ?_
  refine e_if_eq (t := 508) rfl rfl (xnm_no rfl) (xnm_no rfl) h (fun h => ?_) (fun h => ?_)
  · refine e_iconst (x := 0) rfl (by decide) rfl ?_
    exact xlfIc h
  · refine e_aload_n rfl rfl rfl (xnm_no rfl) ?_
    refine e_iload rfl rfl (xnm_no rfl) ?_
    refine e_iload rfl rfl (xnm_no rfl) ?_
    obtain ⟨g3, h⟩ := xgd_some h
    obtain ⟨w1, hw2, h⟩ := xbd_some h
    refine e_cIVc (hc := hw2) (rest := []) (c2 := cc) (s2 := ss) rfl rfl rfl rfl rfl rfl rfl (xadd0 rfl) (xadd0 rfl) g3 rfl (xnm_no rfl) ?_
    refine e_iload rfl rfl (xnm_no rfl) ?_
    refine e_icmp_ne (t := 508) rfl rfl (xnm_no rfl) (xnm_no rfl) h (fun h => ?_) (fun h => ?_)
    · refine e_iconst (x := 0) rfl (by decide) rfl ?_
      exact xlfIc h
    · refine e_aload_n rfl rfl rfl (xnm_no rfl) ?_
      refine e_iconst (x := 1) rfl (by decide) (xnm_no rfl) ?_
      obtain ⟨w4, hw5, h⟩ := xbd_some h
      refine e_cIVc (hc := hw5) (rest := []) (c2 := cc) (s2 := ss) rfl rfl rfl rfl rfl rfl rfl (xadd0 rfl) (xadd0 rfl) g3 rfl (xnm_no rfl) ?_
      refine e_iload rfl rfl (xnm_no rfl) ?_
      refine e_iload rfl rfl (xnm_no rfl) ?_
      refine e_if_eq (t := 499) rfl rfl (xnm_no rfl) (xnm_no rfl) h (fun h => ?_) (fun h => ?_)
      · refine e_iconst (x := 0) rfl (by decide) (xnm_no rfl) ?_
        refine e_iadd rfl (xnm_no rfl) ?_
        refine e_icmp_ne (t := 508) rfl rfl (xnm_no rfl) (xnm_no rfl) h (fun h => ?_) (fun h => ?_)
        · refine e_iconst (x := 0) rfl (by decide) rfl ?_
          exact xlfIc h
        · refine e_iconst (x := 1) rfl (by decide) (xnm_no rfl) ?_
          refine e_goto (t := 509) rfl rfl rfl ?_
          exact xlfIc h
      · refine e_iload rfl rfl (xnm_no rfl) ?_
        refine e_if_eq (t := 495) rfl rfl (xnm_no rfl) (xnm_no rfl) h (fun h => ?_) (fun h => ?_)
        · refine e_iconst (x := 1) rfl (by decide) (xnm_no rfl) ?_
          refine e_goto (t := 500) rfl rfl (xnm_no rfl) ?_
          refine e_iadd rfl (xnm_no rfl) ?_
          refine e_icmp_ne (t := 508) rfl rfl (xnm_no rfl) (xnm_no rfl) h (fun h => ?_) (fun h => ?_)
          · refine e_iconst (x := 0) rfl (by decide) rfl ?_
            exact xlfIc h
          · refine e_iconst (x := 1) rfl (by decide) (xnm_no rfl) ?_
            refine e_goto (t := 509) rfl rfl rfl ?_
            exact xlfIc h
        · refine e_iconst (x := -1) rfl (by decide) (xnm_no rfl) ?_
          refine e_goto (t := 500) rfl rfl (xnm_no rfl) ?_
          refine e_iadd rfl (xnm_no rfl) ?_
          refine e_icmp_ne (t := 508) rfl rfl (xnm_no rfl) (xnm_no rfl) h (fun h => ?_) (fun h => ?_)
          · refine e_iconst (x := 0) rfl (by decide) rfl ?_
            exact xlfIc h
          · refine e_iconst (x := 1) rfl (by decide) (xnm_no rfl) ?_
            refine e_goto (t := 509) rfl rfl rfl ?_
            exact xlfIc h
set_option maxRecDepth 4000 in
theorem bL_law_990_i (v4 : Int32) (v5 : Nat) (v6 : Int32) (v7 : Int32) (v11 : Nat) (v12 : Int32) (v13 : Int32) (v14 : Int32) (s0 : Int32) (cc ss : Nat) (m : xmm) {z : Int32 × xmm} (h : (if v14 = 0 then bL_law_183 s0 v4 v5 (v6 + (1 : Int32)) cc ss m else if ((v7 >>> ((9 : Int32) &&& 31)) &&& (1 : Int32)) = 0 then if s0 = 0 then bL_law_183 (0 : Int32) v4 v5 (v6 + (1 : Int32)) cc ss m else xgd (Nat.ble cc (xmc 171) && Nat.ble ss (xms 171)) ((fX11_exchange_0 v13 v12 m).bind fun (w1 : Int32 × xmm) => if w1.1 = 0 then bL_law_183 (0 : Int32) v4 v5 (v6 + (1 : Int32)) cc ss w1.2 else xgd (Nat.ble (cc + 1) (xmc 171) && Nat.ble (ss + 70) (xms 171)) ((fL_kept_0 w1.2).bind fun (w4 : Nat × xmm) => xgr w4.1 fun k7 => xgd (!(Nat.beq v11 1999)) ((fL_same k7 v11 w4.2).bind fun (w10 : Int32 × xmm) => if w10.1 = 0 then bL_law_183 (0 : Int32) v4 v5 (v6 + (1 : Int32)) (cc + 1) (ss + 70) w10.2 else bL_law_183 (1 : Int32) v4 v5 (v6 + (1 : Int32)) (cc + 1) (ss + 70) w10.2))) else bL_law_183 s0 v4 v5 (v6 + (1 : Int32)) cc ss m) = some z) : bL_law_990 v4 v5 v6 v7 v11 v12 v13 v14 s0 cc ss m = some z := by
  refine xstIc ?_
  show xTc cc ss 171 20 990 [(1, .ref 999), (2, .ref 0), (4, .int v4), (5, .ref v5), (6, .int v6), (7, .int v7), (11, .ref v11), (12, .int v12), (13, .int v13), (14, .int v14)] [.int s0] m (some (.int z.1), z.2)
  refine e_istore_n rfl rfl (xnm_no rfl) ?_
  refine e_iload rfl rfl (xnm_no rfl) ?_
  refine e_if_eq (t := 1443) rfl rfl (xnm_no rfl) (xnm_no rfl) h (fun h => ?_) (fun h => ?_)
  · refine e_iinc (y := 1) rfl rfl rfl (by decide) (xnm_no rfl) ?_
    refine e_goto (t := 183) rfl rfl rfl ?_
    exact xlfIc h
  · refine e_iload rfl rfl (xnm_no rfl) ?_
    refine e_bipush (x := 9) rfl (by decide) (xnm_no rfl) ?_
    refine e_ishr rfl (xnm_no rfl) ?_
    refine e_iconst (x := 1) rfl (by decide) (xnm_no rfl) ?_
    refine e_iand rfl (xnm_no rfl) ?_
    refine e_if_ne (t := 1443) rfl rfl (xnm_no rfl) (xnm_no rfl) h (fun h => ?_) (fun h => ?_)
    · refine e_iinc (y := 1) rfl rfl rfl (by decide) (xnm_no rfl) ?_
      refine e_goto (t := 183) rfl rfl rfl ?_
      exact xlfIc h
    · refine e_iload_n rfl rfl (xnm_no rfl) ?_
      refine e_if_eq (t := 1037) rfl rfl (xnm_no rfl) (xnm_no rfl) h (fun h => ?_) (fun h => ?_)
      · refine e_iconst (x := 0) rfl (by decide) (xnm_no rfl) ?_
        refine e_istore_n rfl rfl (xnm_no rfl) ?_
        refine e_goto (t := 1443) rfl rfl (xnm_no rfl) ?_
        refine e_iinc (y := 1) rfl rfl rfl (by decide) (xnm_no rfl) ?_
        refine e_goto (t := 183) rfl rfl rfl ?_
        exact xlfIc h
      · refine e_aload_n rfl rfl rfl (xnm_no rfl) ?_
        refine e_iload rfl rfl (xnm_no rfl) ?_
        refine e_iload rfl rfl (xnm_no rfl) ?_
        obtain ⟨g3, h⟩ := xgd_some h
        obtain ⟨w1, hw2, h⟩ := xbd_some h
        refine e_cIVc (hc := hw2) (rest := []) (c2 := cc) (s2 := ss) rfl rfl rfl rfl rfl rfl rfl (xadd0 rfl) (xadd0 rfl) g3 rfl (xnm_no rfl) ?_
        refine e_if_eq (t := 1037) rfl rfl (xnm_no rfl) (xnm_no rfl) h (fun h => ?_) (fun h => ?_)
        · refine e_iconst (x := 0) rfl (by decide) (xnm_no rfl) ?_
          refine e_istore_n rfl rfl (xnm_no rfl) ?_
          refine e_goto (t := 1443) rfl rfl (xnm_no rfl) ?_
          refine e_iinc (y := 1) rfl rfl rfl (by decide) (xnm_no rfl) ?_
          refine e_goto (t := 183) rfl rfl rfl ?_
          exact xlfIc h
        · refine e_aload_n rfl rfl rfl (xnm_no rfl) ?_
          obtain ⟨g6, h⟩ := xgd_some h
          obtain ⟨w4, hw5, h⟩ := xbd_some h
          obtain ⟨k7, hk8, h⟩ := xgr_some h
          refine e_cRSc (k := k7) (hc := xr1 hw5 hk8) (rest := []) (c2 := (cc + 1)) (s2 := (ss + 70)) rfl rfl rfl rfl rfl rfl rfl rfl rfl g6 rfl (xnm_no rfl) ?_
          obtain ⟨g9, h⟩ := xgd_some h
          refine e_aload rfl rfl (xnb g9) (xnm_no rfl) ?_
          obtain ⟨w10, hw11, h⟩ := xbd_some h
          refine e_cISc (hc := hw11) (rest := []) (c2 := (cc + 1)) (s2 := (ss + 70)) rfl rfl rfl rfl rfl rfl rfl (xadd0 rfl) (xadd0 rfl) g6 rfl (xnm_no rfl) ?_
          refine e_if_eq (t := 1037) rfl rfl (xnm_no rfl) (xnm_no rfl) h (fun h => ?_) (fun h => ?_)
          · refine e_iconst (x := 0) rfl (by decide) (xnm_no rfl) ?_
            refine e_istore_n rfl rfl (xnm_no rfl) ?_
            refine e_goto (t := 1443) rfl rfl (xnm_no rfl) ?_
            refine e_iinc (y := 1) rfl rfl rfl (by decide) (xnm_no rfl) ?_
            refine e_goto (t := 183) rfl rfl rfl ?_
            exact xlfIc h
          · refine e_iconst (x := 1) rfl (by decide) (xnm_no rfl) ?_
            refine e_goto (t := 1038) rfl rfl (xnm_no rfl) ?_
            refine e_istore_n rfl rfl (xnm_no rfl) ?_
            refine e_goto (t := 1443) rfl rfl (xnm_no rfl) ?_
            refine e_iinc (y := 1) rfl rfl rfl (by decide) (xnm_no rfl) ?_
            refine e_goto (t := 183) rfl rfl rfl ?_
            exact xlfIc h
set_option maxRecDepth 4000 in
theorem bL_law_1137_i (v4 : Int32) (v5 : Nat) (v6 : Int32) (v7 : Int32) (v9 : Int32) (v11 : Nat) (v14 : Int32) (s0 : Int32) (cc ss : Nat) (m : xmm) {z : Int32 × xmm} (h : (if ((v7 >>> ((9 : Int32) &&& 31)) &&& (1 : Int32)) = 0 then if v14 ≤ 0 then bL_law_183 s0 v4 v5 (v6 + (1 : Int32)) cc ss m else if s0 = 0 then bL_law_183 (0 : Int32) v4 v5 (v6 + (1 : Int32)) cc ss m else xgd (Nat.ble cc (xmc 171) && Nat.ble ss (xms 171)) ((fX11_undo_0 m).bind fun (w1 : Int32 × xmm) => if w1.1 = 0 then bL_law_183 (0 : Int32) v4 v5 (v6 + (1 : Int32)) cc ss w1.2 else xgd (Nat.ble (cc + 1) (xmc 171) && Nat.ble (ss + 70) (xms 171)) ((fL_kept_0 w1.2).bind fun (w4 : Nat × xmm) => xgr w4.1 fun k7 => xgd (!(Nat.beq v11 1999)) ((fL_same k7 v11 w4.2).bind fun (w10 : Int32 × xmm) => if w10.1 = 0 then bL_law_183 (0 : Int32) v4 v5 (v6 + (1 : Int32)) (cc + 1) (ss + 70) w10.2 else (fX11_count_0 (9 : Int32) w10.2).bind fun (w12 : Int32 × xmm) => if w12.1 = v9 then bL_law_183 (1 : Int32) v4 v5 (v6 + (1 : Int32)) (cc + 1) (ss + 70) w12.2 else bL_law_183 (0 : Int32) v4 v5 (v6 + (1 : Int32)) (cc + 1) (ss + 70) w12.2))) else bL_law_183 s0 v4 v5 (v6 + (1 : Int32)) cc ss m) = some z) : bL_law_1137 v4 v5 v6 v7 v9 v11 v14 s0 cc ss m = some z := by
  refine xstIc ?_
  show xTc cc ss 171 20 1137 [(1, .ref 999), (2, .ref 0), (4, .int v4), (5, .ref v5), (6, .int v6), (7, .int v7), (9, .int v9), (11, .ref v11), (14, .int v14)] [.int s0] m (some (.int z.1), z.2)
  refine e_istore_n rfl rfl (xnm_no rfl) ?_
  refine e_iload rfl rfl (xnm_no rfl) ?_
  refine e_bipush (x := 9) rfl (by decide) (xnm_no rfl) ?_
  refine e_ishr rfl (xnm_no rfl) ?_
  refine e_iconst (x := 1) rfl (by decide) (xnm_no rfl) ?_
  refine e_iand rfl (xnm_no rfl) ?_
  refine e_if_ne (t := 1443) rfl rfl (xnm_no rfl) (xnm_no rfl) h (fun h => ?_) (fun h => ?_)
  · refine e_iinc (y := 1) rfl rfl rfl (by decide) (xnm_no rfl) ?_
    refine e_goto (t := 183) rfl rfl rfl ?_
    exact xlfIc h
  · refine e_iload rfl rfl (xnm_no rfl) ?_
    refine e_if_le (t := 1443) rfl rfl (xnm_no rfl) (xnm_no rfl) h (fun h => ?_) (fun h => ?_)
    · refine e_iinc (y := 1) rfl rfl rfl (by decide) (xnm_no rfl) ?_
      refine e_goto (t := 183) rfl rfl rfl ?_
      exact xlfIc h
    · refine e_iload_n rfl rfl (xnm_no rfl) ?_
      refine e_if_eq (t := 1191) rfl rfl (xnm_no rfl) (xnm_no rfl) h (fun h => ?_) (fun h => ?_)
      · refine e_iconst (x := 0) rfl (by decide) (xnm_no rfl) ?_
        refine e_istore_n rfl rfl (xnm_no rfl) ?_
        refine e_goto (t := 1443) rfl rfl (xnm_no rfl) ?_
        refine e_iinc (y := 1) rfl rfl rfl (by decide) (xnm_no rfl) ?_
        refine e_goto (t := 183) rfl rfl rfl ?_
        exact xlfIc h
      · refine e_aload_n rfl rfl rfl (xnm_no rfl) ?_
        obtain ⟨g3, h⟩ := xgd_some h
        obtain ⟨w1, hw2, h⟩ := xbd_some h
        refine e_cIVc (hc := hw2) (rest := []) (c2 := cc) (s2 := ss) rfl rfl rfl rfl rfl rfl rfl (xadd0 rfl) (xadd0 rfl) g3 rfl (xnm_no rfl) ?_
        refine e_if_eq (t := 1191) rfl rfl (xnm_no rfl) (xnm_no rfl) h (fun h => ?_) (fun h => ?_)
        · refine e_iconst (x := 0) rfl (by decide) (xnm_no rfl) ?_
          refine e_istore_n rfl rfl (xnm_no rfl) ?_
          refine e_goto (t := 1443) rfl rfl (xnm_no rfl) ?_
          refine e_iinc (y := 1) rfl rfl rfl (by decide) (xnm_no rfl) ?_
          refine e_goto (t := 183) rfl rfl rfl ?_
          exact xlfIc h
        · refine e_aload_n rfl rfl rfl (xnm_no rfl) ?_
          obtain ⟨g6, h⟩ := xgd_some h
          obtain ⟨w4, hw5, h⟩ := xbd_some h
          obtain ⟨k7, hk8, h⟩ := xgr_some h
          refine e_cRSc (k := k7) (hc := xr1 hw5 hk8) (rest := []) (c2 := (cc + 1)) (s2 := (ss + 70)) rfl rfl rfl rfl rfl rfl rfl rfl rfl g6 rfl (xnm_no rfl) ?_
          obtain ⟨g9, h⟩ := xgd_some h
          refine e_aload rfl rfl (xnb g9) (xnm_no rfl) ?_
          obtain ⟨w10, hw11, h⟩ := xbd_some h
          refine e_cISc (hc := hw11) (rest := []) (c2 := (cc + 1)) (s2 := (ss + 70)) rfl rfl rfl rfl rfl rfl rfl (xadd0 rfl) (xadd0 rfl) g6 rfl (xnm_no rfl) ?_
          refine e_if_eq (t := 1191) rfl rfl (xnm_no rfl) (xnm_no rfl) h (fun h => ?_) (fun h => ?_)
          · refine e_iconst (x := 0) rfl (by decide) (xnm_no rfl) ?_
            refine e_istore_n rfl rfl (xnm_no rfl) ?_
            refine e_goto (t := 1443) rfl rfl (xnm_no rfl) ?_
            refine e_iinc (y := 1) rfl rfl rfl (by decide) (xnm_no rfl) ?_
            refine e_goto (t := 183) rfl rfl rfl ?_
            exact xlfIc h
          · refine e_aload_n rfl rfl rfl (xnm_no rfl) ?_
            refine e_bipush (x := 9) rfl (by decide) (xnm_no rfl) ?_
            obtain ⟨w12, hw13, h⟩ := xbd_some h
            refine e_cIVc (hc := hw13) (rest := []) (c2 := (cc + 1)) (s2 := (ss + 70)) rfl rfl rfl rfl rfl rfl rfl (xadd0 rfl) (xadd0 rfl) g6 rfl (xnm_no rfl) ?_
            refine e_iload rfl rfl (xnm_no rfl) ?_
            refine e_icmp_ne (t := 1191) rfl rfl (xnm_no rfl) (xnm_no rfl) h (fun h => ?_) (fun h => ?_)
            · refine e_iconst (x := 0) rfl (by decide) (xnm_no rfl) ?_
              refine e_istore_n rfl rfl (xnm_no rfl) ?_
              refine e_goto (t := 1443) rfl rfl (xnm_no rfl) ?_
              refine e_iinc (y := 1) rfl rfl rfl (by decide) (xnm_no rfl) ?_
              refine e_goto (t := 183) rfl rfl rfl ?_
              exact xlfIc h
            · refine e_iconst (x := 1) rfl (by decide) (xnm_no rfl) ?_
              refine e_goto (t := 1192) rfl rfl (xnm_no rfl) ?_
              refine e_istore_n rfl rfl (xnm_no rfl) ?_
              refine e_goto (t := 1443) rfl rfl (xnm_no rfl) ?_
              refine e_iinc (y := 1) rfl rfl rfl (by decide) (xnm_no rfl) ?_
              refine e_goto (t := 183) rfl rfl rfl ?_
              exact xlfIc h
set_option maxRecDepth 4000 in
theorem bL_law_1091_i (v4 : Int32) (v5 : Nat) (v6 : Int32) (v7 : Int32) (v8 : Int32) (v9 : Int32) (v11 : Nat) (v12 : Int32) (v14 : Int32) (v15 : Int32) (s0 : Int32) (s1 : Int32) (cc ss : Nat) (m : xmm) {z : Int32 × xmm} (h : (if s0 = s1 then xgd (Nat.ble cc (xmc 171) && Nat.ble ss (xms 171)) ((fX11_count_0 (1 : Int32) m).bind fun (w1 : Int32 × xmm) => if w1.1 = (v8 - v14) then (fX11_network_0 (7 : Int32) w1.2).bind fun (w4 : Int32 × xmm) => if w4.1 < v15 then bL_law_1137 v4 v5 v6 v7 v9 v11 v14 (0 : Int32) cc ss w4.2 else if v4 = 0 then bL_law_1137 v4 v5 v6 v7 v9 v11 v14 (1 : Int32) cc ss w4.2 else (fX11_near_0 v12 w4.2).bind fun (w6 : Int32 × xmm) => if w6.1 = 0 then bL_law_1137 v4 v5 v6 v7 v9 v11 v14 (1 : Int32) cc ss w6.2 else bL_law_1137 v4 v5 v6 v7 v9 v11 v14 (0 : Int32) cc ss w6.2 else bL_law_1137 v4 v5 v6 v7 v9 v11 v14 (0 : Int32) cc ss w1.2) else bL_law_1137 v4 v5 v6 v7 v9 v11 v14 (0 : Int32) cc ss m) = some z) : bL_law_1091 v4 v5 v6 v7 v8 v9 v11 v12 v14 v15 s0 s1 cc ss m = some z := by
  refine xstIc ?_
  show xTc cc ss 171 20 1091 [(1, .ref 999), (2, .ref 0), (4, .int v4), (5, .ref v5), (6, .int v6), (7, .int v7), (8, .int v8), (9, .int v9), (11, .ref v11), (12, .int v12), (14, .int v14), (15, .int v15)] [.int s1, .int s0] m (some (.int z.1), z.2)
  refine e_icmp_ne (t := 1136) rfl rfl (xnm_no rfl) (xnm_no rfl) h (fun h => ?_) (fun h => ?_)
  · refine e_iconst (x := 0) rfl (by decide) rfl ?_
    exact xlfIc h
  · refine e_aload_n rfl rfl rfl (xnm_no rfl) ?_
    refine e_iconst (x := 1) rfl (by decide) (xnm_no rfl) ?_
    obtain ⟨g3, h⟩ := xgd_some h
    obtain ⟨w1, hw2, h⟩ := xbd_some h
    refine e_cIVc (hc := hw2) (rest := []) (c2 := cc) (s2 := ss) rfl rfl rfl rfl rfl rfl rfl (xadd0 rfl) (xadd0 rfl) g3 rfl (xnm_no rfl) ?_
    refine e_iload rfl rfl (xnm_no rfl) ?_
    refine e_iload rfl rfl (xnm_no rfl) ?_
    refine e_isub rfl (xnm_no rfl) ?_
    refine e_icmp_ne (t := 1136) rfl rfl (xnm_no rfl) (xnm_no rfl) h (fun h => ?_) (fun h => ?_)
    · refine e_iconst (x := 0) rfl (by decide) rfl ?_
      exact xlfIc h
    · refine e_aload_n rfl rfl rfl (xnm_no rfl) ?_
      refine e_bipush (x := 7) rfl (by decide) (xnm_no rfl) ?_
      obtain ⟨w4, hw5, h⟩ := xbd_some h
      refine e_cIVc (hc := hw5) (rest := []) (c2 := cc) (s2 := ss) rfl rfl rfl rfl rfl rfl rfl (xadd0 rfl) (xadd0 rfl) g3 rfl (xnm_no rfl) ?_
      refine e_iload rfl rfl (xnm_no rfl) ?_
      refine e_icmp_lt (t := 1136) rfl rfl (xnm_no rfl) (xnm_no rfl) h (fun h => ?_) (fun h => ?_)
      · refine e_iconst (x := 0) rfl (by decide) rfl ?_
        exact xlfIc h
      · refine e_iload rfl rfl (xnm_no rfl) ?_
        refine e_if_eq (t := 1132) rfl rfl (xnm_no rfl) (xnm_no rfl) h (fun h => ?_) (fun h => ?_)
        · refine e_iconst (x := 1) rfl (by decide) (xnm_no rfl) ?_
          refine e_goto (t := 1137) rfl rfl rfl ?_
          exact xlfIc h
        · refine e_aload_n rfl rfl rfl (xnm_no rfl) ?_
          refine e_iload rfl rfl (xnm_no rfl) ?_
          obtain ⟨w6, hw7, h⟩ := xbd_some h
          refine e_cIVc (hc := hw7) (rest := []) (c2 := cc) (s2 := ss) rfl rfl rfl rfl rfl rfl rfl (xadd0 rfl) (xadd0 rfl) g3 rfl (xnm_no rfl) ?_
          refine e_if_ne (t := 1136) rfl rfl (xnm_no rfl) (xnm_no rfl) h (fun h => ?_) (fun h => ?_)
          · refine e_iconst (x := 0) rfl (by decide) rfl ?_
            exact xlfIc h
          · refine e_iconst (x := 1) rfl (by decide) (xnm_no rfl) ?_
            refine e_goto (t := 1137) rfl rfl rfl ?_
            exact xlfIc h
set_option maxRecDepth 4000 in
theorem bL_law_1335_i (v3 : Int32) (v4 : Int32) (v5 : Nat) (v6 : Int32) (v7 : Int32) (v11 : Nat) (v14 : Int32) (cc ss : Nat) (m : xmm) {z : Int32 × xmm} (h : (if ((v7 >>> ((9 : Int32) &&& 31)) &&& (1 : Int32)) = 0 then if v3 = 0 then bL_law_183 (0 : Int32) v4 v5 (v6 + (1 : Int32)) cc ss m else xgd (Nat.ble cc (xmc 171) && Nat.ble ss (xms 171)) ((fX11_begin_0 m).bind fun (w1 : Int32 × xmm) => if w1.1 = 0 then if v14 = 0 then bL_law_1371 v4 v5 v6 v11 (1 : Int32) (1 : Int32) cc ss w1.2 else bL_law_1371 v4 v5 v6 v11 (1 : Int32) (0 : Int32) cc ss w1.2 else if v14 = 0 then bL_law_1371 v4 v5 v6 v11 (0 : Int32) (1 : Int32) cc ss w1.2 else bL_law_1371 v4 v5 v6 v11 (0 : Int32) (0 : Int32) cc ss w1.2) else bL_law_183 v3 v4 v5 (v6 + (1 : Int32)) cc ss m) = some z) : bL_law_1335 v3 v4 v5 v6 v7 v11 v14 cc ss m = some z := by
  refine xstIc ?_
  show xTc cc ss 171 20 1335 [(1, .ref 999), (2, .ref 0), (3, .int v3), (4, .int v4), (5, .ref v5), (6, .int v6), (7, .int v7), (11, .ref v11), (14, .int v14)] [] m (some (.int z.1), z.2)
  refine e_iload rfl rfl (xnm_no rfl) ?_
  refine e_bipush (x := 9) rfl (by decide) (xnm_no rfl) ?_
  refine e_ishr rfl (xnm_no rfl) ?_
  refine e_iconst (x := 1) rfl (by decide) (xnm_no rfl) ?_
  refine e_iand rfl (xnm_no rfl) ?_
  refine e_if_ne (t := 1443) rfl rfl (xnm_no rfl) (xnm_no rfl) h (fun h => ?_) (fun h => ?_)
  · refine e_iinc (y := 1) rfl rfl rfl (by decide) (xnm_no rfl) ?_
    refine e_goto (t := 183) rfl rfl rfl ?_
    exact xlfIc h
  · refine e_iload_n rfl rfl (xnm_no rfl) ?_
    refine e_if_eq (t := 1390) rfl rfl (xnm_no rfl) (xnm_no rfl) h (fun h => ?_) (fun h => ?_)
    · refine e_iconst (x := 0) rfl (by decide) (xnm_no rfl) ?_
      refine e_istore_n rfl rfl (xnm_no rfl) ?_
      refine e_goto (t := 1443) rfl rfl (xnm_no rfl) ?_
      refine e_iinc (y := 1) rfl rfl rfl (by decide) (xnm_no rfl) ?_
      refine e_goto (t := 183) rfl rfl rfl ?_
      exact xlfIc h
    · refine e_aload_n rfl rfl rfl (xnm_no rfl) ?_
      obtain ⟨g3, h⟩ := xgd_some h
      obtain ⟨w1, hw2, h⟩ := xbd_some h
      refine e_cIVc (hc := hw2) (rest := []) (c2 := cc) (s2 := ss) rfl rfl rfl rfl rfl rfl rfl (xadd0 rfl) (xadd0 rfl) g3 rfl (xnm_no rfl) ?_
      refine e_if_ne (t := 1360) rfl rfl (xnm_no rfl) (xnm_no rfl) h (fun h => ?_) (fun h => ?_)
      · refine e_iconst (x := 0) rfl (by decide) (xnm_no rfl) ?_
        refine e_iload rfl rfl (xnm_no rfl) ?_
        refine e_if_ne (t := 1370) rfl rfl (xnm_no rfl) (xnm_no rfl) h (fun h => ?_) (fun h => ?_)
        · refine e_iconst (x := 0) rfl (by decide) rfl ?_
          exact xlfIc h
        · refine e_iconst (x := 1) rfl (by decide) (xnm_no rfl) ?_
          refine e_goto (t := 1371) rfl rfl rfl ?_
          exact xlfIc h
      · refine e_iconst (x := 1) rfl (by decide) (xnm_no rfl) ?_
        refine e_goto (t := 1361) rfl rfl (xnm_no rfl) ?_
        refine e_iload rfl rfl (xnm_no rfl) ?_
        refine e_if_ne (t := 1370) rfl rfl (xnm_no rfl) (xnm_no rfl) h (fun h => ?_) (fun h => ?_)
        · refine e_iconst (x := 0) rfl (by decide) rfl ?_
          exact xlfIc h
        · refine e_iconst (x := 1) rfl (by decide) (xnm_no rfl) ?_
          refine e_goto (t := 1371) rfl rfl rfl ?_
          exact xlfIc h
set_option maxRecDepth 4000 in
theorem bL_law_509_i (v4 : Int32) (v5 : Nat) (v6 : Int32) (v7 : Int32) (v11 : Nat) (v12 : Int32) (v13 : Int32) (v14 : Int32) (v15 : Int32) (v16 : Int32) (s0 : Int32) (cc ss : Nat) (m : xmm) {z : Int32 × xmm} (h : (if v14 = 0 then bL_law_581 s0 v4 v5 v6 v7 v11 v12 v13 v14 cc ss m else if s0 = 0 then bL_law_581 (0 : Int32) v4 v5 v6 v7 v11 v12 v13 v14 cc ss m else if v16 = 0 then xgd (Nat.ble cc (xmc 171) && Nat.ble ss (xms 171)) ((fX11_colours_0 (3 : Int32) m).bind fun (w1 : Int32 × xmm) => if v15 < w1.1 then bL_law_581 (0 : Int32) v4 v5 v6 v7 v11 v12 v13 v14 cc ss w1.2 else bL_law_547 v4 v5 v6 v7 v11 v12 v13 v14 v16 cc ss w1.2) else xgd (Nat.ble cc (xmc 171) && Nat.ble ss (xms 171)) ((fX11_colours_0 (3 : Int32) m).bind fun (w4 : Int32 × xmm) => if w4.1 < v15 then bL_law_581 (0 : Int32) v4 v5 v6 v7 v11 v12 v13 v14 cc ss w4.2 else bL_law_547 v4 v5 v6 v7 v11 v12 v13 v14 v16 cc ss w4.2)) = some z) : bL_law_509 v4 v5 v6 v7 v11 v12 v13 v14 v15 v16 s0 cc ss m = some z := by
  refine xstIc ?_
  show xTc cc ss 171 20 509 [(1, .ref 999), (2, .ref 0), (4, .int v4), (5, .ref v5), (6, .int v6), (7, .int v7), (11, .ref v11), (12, .int v12), (13, .int v13), (14, .int v14), (15, .int v15), (16, .int v16)] [.int s0] m (some (.int z.1), z.2)
  refine e_istore_n rfl rfl (xnm_no rfl) ?_
  refine e_iload rfl rfl (xnm_no rfl) ?_
  refine e_if_eq (t := 581) rfl rfl rfl (xnm_no rfl) h (fun h => ?_) (fun h => ?_)
  · exact xlfIc h
  · refine e_iload_n rfl rfl (xnm_no rfl) ?_
    refine e_if_eq (t := 579) rfl rfl (xnm_no rfl) (xnm_no rfl) h (fun h => ?_) (fun h => ?_)
    · refine e_iconst (x := 0) rfl (by decide) (xnm_no rfl) ?_
      refine e_istore_n rfl rfl rfl ?_
      exact xlfIc h
    · refine e_iload rfl rfl (xnm_no rfl) ?_
      refine e_if_eq (t := 537) rfl rfl (xnm_no rfl) (xnm_no rfl) h (fun h => ?_) (fun h => ?_)
      · refine e_aload_n rfl rfl rfl (xnm_no rfl) ?_
        refine e_iconst (x := 3) rfl (by decide) (xnm_no rfl) ?_
        obtain ⟨g3, h⟩ := xgd_some h
        obtain ⟨w1, hw2, h⟩ := xbd_some h
        refine e_cIVc (hc := hw2) (rest := []) (c2 := cc) (s2 := ss) rfl rfl rfl rfl rfl rfl rfl (xadd0 rfl) (xadd0 rfl) g3 rfl (xnm_no rfl) ?_
        refine e_iload rfl rfl (xnm_no rfl) ?_
        refine e_icmp_gt (t := 579) rfl rfl (xnm_no rfl) rfl h (fun h => ?_) (fun h => ?_)
        · refine e_iconst (x := 0) rfl (by decide) (xnm_no rfl) ?_
          refine e_istore_n rfl rfl rfl ?_
          exact xlfIc h
        · exact xlfIc h
      · refine e_aload_n rfl rfl rfl (xnm_no rfl) ?_
        refine e_iconst (x := 3) rfl (by decide) (xnm_no rfl) ?_
        obtain ⟨g6, h⟩ := xgd_some h
        obtain ⟨w4, hw5, h⟩ := xbd_some h
        refine e_cIVc (hc := hw5) (rest := []) (c2 := cc) (s2 := ss) rfl rfl rfl rfl rfl rfl rfl (xadd0 rfl) (xadd0 rfl) g6 rfl (xnm_no rfl) ?_
        refine e_iload rfl rfl (xnm_no rfl) ?_
        refine e_icmp_lt (t := 579) rfl rfl (xnm_no rfl) (xnm_no rfl) h (fun h => ?_) (fun h => ?_)
        · refine e_iconst (x := 0) rfl (by decide) (xnm_no rfl) ?_
          refine e_istore_n rfl rfl rfl ?_
          exact xlfIc h
        · refine e_goto (t := 547) rfl rfl rfl ?_
          exact xlfIc h
set_option maxRecDepth 4000 in
theorem bL_law_1371_i (v4 : Int32) (v5 : Nat) (v6 : Int32) (v11 : Nat) (s0 : Int32) (s1 : Int32) (cc ss : Nat) (m : xmm) {z : Int32 × xmm} (h : (if s0 = s1 then xgd (Nat.ble (cc + 1) (xmc 171) && Nat.ble (ss + 70) (xms 171)) ((fL_kept_0 m).bind fun (w1 : Nat × xmm) => xgr w1.1 fun k4 => xgd (!(Nat.beq v11 1999)) ((fL_same k4 v11 w1.2).bind fun (w7 : Int32 × xmm) => if w7.1 = 0 then bL_law_183 (0 : Int32) v4 v5 (v6 + (1 : Int32)) (cc + 1) (ss + 70) w7.2 else bL_law_183 (1 : Int32) v4 v5 (v6 + (1 : Int32)) (cc + 1) (ss + 70) w7.2)) else bL_law_183 (0 : Int32) v4 v5 (v6 + (1 : Int32)) cc ss m) = some z) : bL_law_1371 v4 v5 v6 v11 s0 s1 cc ss m = some z := by
  refine xstIc ?_
  show xTc cc ss 171 20 1371 [(1, .ref 999), (2, .ref 0), (4, .int v4), (5, .ref v5), (6, .int v6), (11, .ref v11)] [.int s1, .int s0] m (some (.int z.1), z.2)
  refine e_icmp_ne (t := 1390) rfl rfl (xnm_no rfl) (xnm_no rfl) h (fun h => ?_) (fun h => ?_)
  · refine e_iconst (x := 0) rfl (by decide) (xnm_no rfl) ?_
    refine e_istore_n rfl rfl (xnm_no rfl) ?_
    refine e_goto (t := 1443) rfl rfl (xnm_no rfl) ?_
    refine e_iinc (y := 1) rfl rfl rfl (by decide) (xnm_no rfl) ?_
    refine e_goto (t := 183) rfl rfl rfl ?_
    exact xlfIc h
  · refine e_aload_n rfl rfl rfl (xnm_no rfl) ?_
    obtain ⟨g3, h⟩ := xgd_some h
    obtain ⟨w1, hw2, h⟩ := xbd_some h
    obtain ⟨k4, hk5, h⟩ := xgr_some h
    refine e_cRSc (k := k4) (hc := xr1 hw2 hk5) (rest := []) (c2 := (cc + 1)) (s2 := (ss + 70)) rfl rfl rfl rfl rfl rfl rfl rfl rfl g3 rfl (xnm_no rfl) ?_
    obtain ⟨g6, h⟩ := xgd_some h
    refine e_aload rfl rfl (xnb g6) (xnm_no rfl) ?_
    obtain ⟨w7, hw8, h⟩ := xbd_some h
    refine e_cISc (hc := hw8) (rest := []) (c2 := (cc + 1)) (s2 := (ss + 70)) rfl rfl rfl rfl rfl rfl rfl (xadd0 rfl) (xadd0 rfl) g3 rfl (xnm_no rfl) ?_
    refine e_if_eq (t := 1390) rfl rfl (xnm_no rfl) (xnm_no rfl) h (fun h => ?_) (fun h => ?_)
    · refine e_iconst (x := 0) rfl (by decide) (xnm_no rfl) ?_
      refine e_istore_n rfl rfl (xnm_no rfl) ?_
      refine e_goto (t := 1443) rfl rfl (xnm_no rfl) ?_
      refine e_iinc (y := 1) rfl rfl rfl (by decide) (xnm_no rfl) ?_
      refine e_goto (t := 183) rfl rfl rfl ?_
      exact xlfIc h
    · refine e_iconst (x := 1) rfl (by decide) (xnm_no rfl) ?_
      refine e_goto (t := 1391) rfl rfl (xnm_no rfl) ?_
      refine e_istore_n rfl rfl (xnm_no rfl) ?_
      refine e_goto (t := 1443) rfl rfl (xnm_no rfl) ?_
      refine e_iinc (y := 1) rfl rfl rfl (by decide) (xnm_no rfl) ?_
      refine e_goto (t := 183) rfl rfl rfl ?_
      exact xlfIc h
set_option maxRecDepth 4000 in
theorem bL_law_581_i (v3 : Int32) (v4 : Int32) (v5 : Nat) (v6 : Int32) (v7 : Int32) (v11 : Nat) (v12 : Int32) (v13 : Int32) (v14 : Int32) (cc ss : Nat) (m : xmm) {z : Int32 × xmm} (h : (if v14 = 0 then bL_law_183 v3 v4 v5 (v6 + (1 : Int32)) cc ss m else if ((v7 >>> ((9 : Int32) &&& 31)) &&& (3 : Int32)) = 0 then if v3 = 0 then bL_law_183 (0 : Int32) v4 v5 (v6 + (1 : Int32)) cc ss m else xgd (Nat.ble cc (xmc 171) && Nat.ble ss (xms 171)) ((fX11_line_0 v13 v12 m).bind fun (w1 : Int32 × xmm) => if w1.1 = 0 then bL_law_183 (0 : Int32) v4 v5 (v6 + (1 : Int32)) cc ss w1.2 else xgd (Nat.ble (cc + 1) (xmc 171) && Nat.ble (ss + 70) (xms 171)) ((fL_kept_0 w1.2).bind fun (w4 : Nat × xmm) => xgr w4.1 fun k7 => xgd (!(Nat.beq v11 1999)) ((fL_same k7 v11 w4.2).bind fun (w10 : Int32 × xmm) => if w10.1 = 0 then bL_law_183 (0 : Int32) v4 v5 (v6 + (1 : Int32)) (cc + 1) (ss + 70) w10.2 else (fX11_undo_0 w10.2).bind fun (w12 : Int32 × xmm) => if w12.1 = 0 then bL_law_183 (0 : Int32) v4 v5 (v6 + (1 : Int32)) (cc + 1) (ss + 70) w12.2 else (fX11_undo_0 w12.2).bind fun (w14 : Int32 × xmm) => if w14.1 = 0 then bL_law_183 (0 : Int32) v4 v5 (v6 + (1 : Int32)) (cc + 1) (ss + 70) w14.2 else xgd (Nat.ble ((cc + 1) + 1) (xmc 171) && Nat.ble ((ss + 70) + 70) (xms 171)) ((fL_kept_0 w14.2).bind fun (w16 : Nat × xmm) => xgr w16.1 fun k19 => (fL_same k19 v11 w16.2).bind fun (w21 : Int32 × xmm) => if w21.1 = 0 then bL_law_183 (0 : Int32) v4 v5 (v6 + (1 : Int32)) ((cc + 1) + 1) ((ss + 70) + 70) w21.2 else bL_law_183 (1 : Int32) v4 v5 (v6 + (1 : Int32)) ((cc + 1) + 1) ((ss + 70) + 70) w21.2)))) else bL_law_183 v3 v4 v5 (v6 + (1 : Int32)) cc ss m) = some z) : bL_law_581 v3 v4 v5 v6 v7 v11 v12 v13 v14 cc ss m = some z := by
  refine xstIc ?_
  show xTc cc ss 171 20 581 [(1, .ref 999), (2, .ref 0), (3, .int v3), (4, .int v4), (5, .ref v5), (6, .int v6), (7, .int v7), (11, .ref v11), (12, .int v12), (13, .int v13), (14, .int v14)] [] m (some (.int z.1), z.2)
  refine e_iload rfl rfl (xnm_no rfl) ?_
  refine e_if_eq (t := 1443) rfl rfl (xnm_no rfl) (xnm_no rfl) h (fun h => ?_) (fun h => ?_)
  · refine e_iinc (y := 1) rfl rfl rfl (by decide) (xnm_no rfl) ?_
    refine e_goto (t := 183) rfl rfl rfl ?_
    exact xlfIc h
  · refine e_iload rfl rfl (xnm_no rfl) ?_
    refine e_bipush (x := 9) rfl (by decide) (xnm_no rfl) ?_
    refine e_ishr rfl (xnm_no rfl) ?_
    refine e_iconst (x := 3) rfl (by decide) (xnm_no rfl) ?_
    refine e_iand rfl (xnm_no rfl) ?_
    refine e_if_ne (t := 1443) rfl rfl (xnm_no rfl) (xnm_no rfl) h (fun h => ?_) (fun h => ?_)
    · refine e_iinc (y := 1) rfl rfl rfl (by decide) (xnm_no rfl) ?_
      refine e_goto (t := 183) rfl rfl rfl ?_
      exact xlfIc h
    · refine e_iload_n rfl rfl (xnm_no rfl) ?_
      refine e_if_eq (t := 653) rfl rfl (xnm_no rfl) (xnm_no rfl) h (fun h => ?_) (fun h => ?_)
      · refine e_iconst (x := 0) rfl (by decide) (xnm_no rfl) ?_
        refine e_istore_n rfl rfl (xnm_no rfl) ?_
        refine e_goto (t := 1443) rfl rfl (xnm_no rfl) ?_
        refine e_iinc (y := 1) rfl rfl rfl (by decide) (xnm_no rfl) ?_
        refine e_goto (t := 183) rfl rfl rfl ?_
        exact xlfIc h
      · refine e_aload_n rfl rfl rfl (xnm_no rfl) ?_
        refine e_iload rfl rfl (xnm_no rfl) ?_
        refine e_iload rfl rfl (xnm_no rfl) ?_
        obtain ⟨g3, h⟩ := xgd_some h
        obtain ⟨w1, hw2, h⟩ := xbd_some h
        refine e_cIVc (hc := hw2) (rest := []) (c2 := cc) (s2 := ss) rfl rfl rfl rfl rfl rfl rfl (xadd0 rfl) (xadd0 rfl) g3 rfl (xnm_no rfl) ?_
        refine e_if_eq (t := 653) rfl rfl (xnm_no rfl) (xnm_no rfl) h (fun h => ?_) (fun h => ?_)
        · refine e_iconst (x := 0) rfl (by decide) (xnm_no rfl) ?_
          refine e_istore_n rfl rfl (xnm_no rfl) ?_
          refine e_goto (t := 1443) rfl rfl (xnm_no rfl) ?_
          refine e_iinc (y := 1) rfl rfl rfl (by decide) (xnm_no rfl) ?_
          refine e_goto (t := 183) rfl rfl rfl ?_
          exact xlfIc h
        · refine e_aload_n rfl rfl rfl (xnm_no rfl) ?_
          obtain ⟨g6, h⟩ := xgd_some h
          obtain ⟨w4, hw5, h⟩ := xbd_some h
          obtain ⟨k7, hk8, h⟩ := xgr_some h
          refine e_cRSc (k := k7) (hc := xr1 hw5 hk8) (rest := []) (c2 := (cc + 1)) (s2 := (ss + 70)) rfl rfl rfl rfl rfl rfl rfl rfl rfl g6 rfl (xnm_no rfl) ?_
          obtain ⟨g9, h⟩ := xgd_some h
          refine e_aload rfl rfl (xnb g9) (xnm_no rfl) ?_
          obtain ⟨w10, hw11, h⟩ := xbd_some h
          refine e_cISc (hc := hw11) (rest := []) (c2 := (cc + 1)) (s2 := (ss + 70)) rfl rfl rfl rfl rfl rfl rfl (xadd0 rfl) (xadd0 rfl) g6 rfl (xnm_no rfl) ?_
          refine e_if_eq (t := 653) rfl rfl (xnm_no rfl) (xnm_no rfl) h (fun h => ?_) (fun h => ?_)
          · refine e_iconst (x := 0) rfl (by decide) (xnm_no rfl) ?_
            refine e_istore_n rfl rfl (xnm_no rfl) ?_
            refine e_goto (t := 1443) rfl rfl (xnm_no rfl) ?_
            refine e_iinc (y := 1) rfl rfl rfl (by decide) (xnm_no rfl) ?_
            refine e_goto (t := 183) rfl rfl rfl ?_
            exact xlfIc h
          · refine e_aload_n rfl rfl rfl (xnm_no rfl) ?_
            obtain ⟨w12, hw13, h⟩ := xbd_some h
            refine e_cIVc (hc := hw13) (rest := []) (c2 := (cc + 1)) (s2 := (ss + 70)) rfl rfl rfl rfl rfl rfl rfl (xadd0 rfl) (xadd0 rfl) g6 rfl (xnm_no rfl) ?_
            refine e_if_eq (t := 653) rfl rfl (xnm_no rfl) (xnm_no rfl) h (fun h => ?_) (fun h => ?_)
            · refine e_iconst (x := 0) rfl (by decide) (xnm_no rfl) ?_
              refine e_istore_n rfl rfl (xnm_no rfl) ?_
              refine e_goto (t := 1443) rfl rfl (xnm_no rfl) ?_
              refine e_iinc (y := 1) rfl rfl rfl (by decide) (xnm_no rfl) ?_
              refine e_goto (t := 183) rfl rfl rfl ?_
              exact xlfIc h
            · refine e_aload_n rfl rfl rfl (xnm_no rfl) ?_
              obtain ⟨w14, hw15, h⟩ := xbd_some h
              refine e_cIVc (hc := hw15) (rest := []) (c2 := (cc + 1)) (s2 := (ss + 70)) rfl rfl rfl rfl rfl rfl rfl (xadd0 rfl) (xadd0 rfl) g6 rfl (xnm_no rfl) ?_
              refine e_if_eq (t := 653) rfl rfl (xnm_no rfl) (xnm_no rfl) h (fun h => ?_) (fun h => ?_)
              · refine e_iconst (x := 0) rfl (by decide) (xnm_no rfl) ?_
                refine e_istore_n rfl rfl (xnm_no rfl) ?_
                refine e_goto (t := 1443) rfl rfl (xnm_no rfl) ?_
                refine e_iinc (y := 1) rfl rfl rfl (by decide) (xnm_no rfl) ?_
                refine e_goto (t := 183) rfl rfl rfl ?_
                exact xlfIc h
              · refine e_aload_n rfl rfl rfl (xnm_no rfl) ?_
                obtain ⟨g18, h⟩ := xgd_some h
                obtain ⟨w16, hw17, h⟩ := xbd_some h
                obtain ⟨k19, hk20, h⟩ := xgr_some h
                refine e_cRSc (k := k19) (hc := xr1 hw17 hk20) (rest := []) (c2 := ((cc + 1) + 1)) (s2 := ((ss + 70) + 70)) rfl rfl rfl rfl rfl rfl rfl rfl rfl g18 rfl (xnm_no rfl) ?_
                refine e_aload rfl rfl (xnb g9) (xnm_no rfl) ?_
                obtain ⟨w21, hw22, h⟩ := xbd_some h
                refine e_cISc (hc := hw22) (rest := []) (c2 := ((cc + 1) + 1)) (s2 := ((ss + 70) + 70)) rfl rfl rfl rfl rfl rfl rfl (xadd0 rfl) (xadd0 rfl) g18 rfl (xnm_no rfl) ?_
                refine e_if_eq (t := 653) rfl rfl (xnm_no rfl) (xnm_no rfl) h (fun h => ?_) (fun h => ?_)
                · refine e_iconst (x := 0) rfl (by decide) (xnm_no rfl) ?_
                  refine e_istore_n rfl rfl (xnm_no rfl) ?_
                  refine e_goto (t := 1443) rfl rfl (xnm_no rfl) ?_
                  refine e_iinc (y := 1) rfl rfl rfl (by decide) (xnm_no rfl) ?_
                  refine e_goto (t := 183) rfl rfl rfl ?_
                  exact xlfIc h
                · refine e_iconst (x := 1) rfl (by decide) (xnm_no rfl) ?_
                  refine e_goto (t := 654) rfl rfl (xnm_no rfl) ?_
                  refine e_istore_n rfl rfl (xnm_no rfl) ?_
                  refine e_goto (t := 1443) rfl rfl (xnm_no rfl) ?_
                  refine e_iinc (y := 1) rfl rfl rfl (by decide) (xnm_no rfl) ?_
                  refine e_goto (t := 183) rfl rfl rfl ?_
                  exact xlfIc h
set_option maxRecDepth 4000 in
theorem bL_law_547_i (v4 : Int32) (v5 : Nat) (v6 : Int32) (v7 : Int32) (v11 : Nat) (v12 : Int32) (v13 : Int32) (v14 : Int32) (v16 : Int32) (cc ss : Nat) (m : xmm) {z : Int32 × xmm} (h : (xgd (Nat.ble cc (xmc 171) && Nat.ble ss (xms 171)) ((fX11_far_0 v12 v13 m).bind fun (w1 : Int32 × xmm) => if v16 = 0 then if w1.1 = (1 : Int32) then bL_law_581 (1 : Int32) v4 v5 v6 v7 v11 v12 v13 v14 cc ss w1.2 else bL_law_581 (0 : Int32) v4 v5 v6 v7 v11 v12 v13 v14 cc ss w1.2 else (fX11_far_0 v12 v13 w1.2).bind fun (w4 : Int32 × xmm) => if w1.1 = w4.1 then bL_law_581 (1 : Int32) v4 v5 v6 v7 v11 v12 v13 v14 cc ss w4.2 else bL_law_581 (0 : Int32) v4 v5 v6 v7 v11 v12 v13 v14 cc ss w4.2)) = some z) : bL_law_547 v4 v5 v6 v7 v11 v12 v13 v14 v16 cc ss m = some z := by
  refine xstIc ?_
  show xTc cc ss 171 20 547 [(1, .ref 999), (2, .ref 0), (4, .int v4), (5, .ref v5), (6, .int v6), (7, .int v7), (11, .ref v11), (12, .int v12), (13, .int v13), (14, .int v14), (16, .int v16)] [] m (some (.int z.1), z.2)
  refine e_aload_n rfl rfl rfl (xnm_no rfl) ?_
  refine e_iload rfl rfl (xnm_no rfl) ?_
  refine e_iload rfl rfl (xnm_no rfl) ?_
  obtain ⟨g3, h⟩ := xgd_some h
  obtain ⟨w1, hw2, h⟩ := xbd_some h
  refine e_cIVc (hc := hw2) (rest := []) (c2 := cc) (s2 := ss) rfl rfl rfl rfl rfl rfl rfl (xadd0 rfl) (xadd0 rfl) g3 rfl (xnm_no rfl) ?_
  refine e_iload rfl rfl (xnm_no rfl) ?_
  refine e_if_eq (t := 571) rfl rfl (xnm_no rfl) (xnm_no rfl) h (fun h => ?_) (fun h => ?_)
  · refine e_iconst (x := 1) rfl (by decide) (xnm_no rfl) ?_
    refine e_icmp_ne (t := 579) rfl rfl (xnm_no rfl) (xnm_no rfl) h (fun h => ?_) (fun h => ?_)
    · refine e_iconst (x := 0) rfl (by decide) (xnm_no rfl) ?_
      refine e_istore_n rfl rfl rfl ?_
      exact xlfIc h
    · refine e_iconst (x := 1) rfl (by decide) (xnm_no rfl) ?_
      refine e_goto (t := 580) rfl rfl (xnm_no rfl) ?_
      refine e_istore_n rfl rfl rfl ?_
      exact xlfIc h
  · refine e_aload_n rfl rfl rfl (xnm_no rfl) ?_
    refine e_iload rfl rfl (xnm_no rfl) ?_
    refine e_iload rfl rfl (xnm_no rfl) ?_
    obtain ⟨w4, hw5, h⟩ := xbd_some h
    refine e_cIVc (hc := hw5) (rest := [.int _]) (c2 := cc) (s2 := ss) rfl rfl rfl rfl rfl rfl rfl (xadd0 rfl) (xadd0 rfl) g3 rfl (xnm_no rfl) ?_
    refine e_goto (t := 572) rfl rfl (xnm_no rfl) ?_
    refine e_icmp_ne (t := 579) rfl rfl (xnm_no rfl) (xnm_no rfl) h (fun h => ?_) (fun h => ?_)
    · refine e_iconst (x := 0) rfl (by decide) (xnm_no rfl) ?_
      refine e_istore_n rfl rfl rfl ?_
      exact xlfIc h
    · refine e_iconst (x := 1) rfl (by decide) (xnm_no rfl) ?_
      refine e_goto (t := 580) rfl rfl (xnm_no rfl) ?_
      refine e_istore_n rfl rfl rfl ?_
      exact xlfIc h
