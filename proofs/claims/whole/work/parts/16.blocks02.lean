set_option maxRecDepth 4000 in
theorem fX12_means_144_i (m : xmm) {z : xmm} (h : (xlt (xwi m 144 20 (0 : Int32)) fun (m1 : xmm) => bX12_means_144_7 (1 : Int32) m1) = some z) : fX12_means_144 m = some z := by
  refine xstV ?_
  show xT 175 2 0 [(0, .ref 144)] [] m (none, z)
  refine e_aload_n rfl rfl rfl (xnm_no rfl) ?_
  refine e_iconst (x := 0) rfl (by decide) (xnm_no rfl) ?_
  refine e_putI rfl rfl rfl rfl (xnm_no rfl) ?_
  replace h := xlt_b h
  refine e_iconst (x := 1) rfl (by decide) (xnm_no rfl) ?_
  refine e_istore_n rfl rfl rfl ?_
  exact xlfV h
set_option maxRecDepth 4000 in
theorem bX12_means_144_7_i (v1 : Int32) (m : xmm) {z : xmm} (h : (xgd (xinb 403 v1) (if (m.1 147 (v1).toNatClampNeg) = (1 : Int32) then (fX12_postAt_144 (m.2 150 (v1).toNatClampNeg) m).bind fun (w2 : Int32 × xmm) => if w2.1 < 0 then bX12_means_144_36 v1 w2.2 else (fX12_wrong_144 (3 : Int32) v1 w2.2).bind fun (w4 : xmm) => bX12_means_144_36 v1 w4 else bX12_means_144_69 (0 : Int32) m)) = some z) : bX12_means_144_7 v1 m = some z := by
  refine xstV ?_
  show xT 175 2 7 [(0, .ref 144), (1, .int v1)] [] m (none, z)
  refine e_aload_n rfl rfl rfl (xnm_no rfl) ?_
  refine e_getR (r := 147) rfl rfl rfl rfl rfl (xnm_no rfl) ?_
  refine e_iload_n rfl rfl (xnm_no rfl) ?_
  obtain ⟨g1, h⟩ := xgd_some h
  refine e_iald rfl g1 (xnm_no rfl) ?_
  refine e_iconst (x := 1) rfl (by decide) (xnm_no rfl) ?_
  refine e_icmp_ne (t := 67) rfl rfl (xnm_no rfl) (xnm_no rfl) h (fun h => ?_) (fun h => ?_)
  · refine e_iconst (x := 0) rfl (by decide) (xnm_no rfl) ?_
    refine e_istore_n rfl rfl rfl ?_
    exact xlfV h
  · refine e_aload_n rfl rfl rfl (xnm_no rfl) ?_
    refine e_aload_n rfl rfl rfl (xnm_no rfl) ?_
    refine e_getR (r := 150) rfl rfl rfl rfl rfl (xnm_no rfl) ?_
    refine e_iload_n rfl rfl (xnm_no rfl) ?_
    refine e_lald rfl g1 (xnm_no rfl) ?_
    obtain ⟨w2, hw3, h⟩ := xbd_some h
    refine e_cIV (hc := hw3) (rest := []) rfl rfl rfl rfl rfl rfl rfl rfl (xnm_no rfl) ?_
    refine e_if_lt (t := 36) rfl rfl rfl (xnm_no rfl) h (fun h => ?_) (fun h => ?_)
    · exact xlfV h
    · refine e_aload_n rfl rfl rfl (xnm_no rfl) ?_
      refine e_iconst (x := 3) rfl (by decide) (xnm_no rfl) ?_
      refine e_iload_n rfl rfl (xnm_no rfl) ?_
      obtain ⟨w4, hw5, h⟩ := xbd_some h
      refine e_cVV (hc := hw5) (rest := []) rfl rfl rfl rfl rfl rfl rfl rfl rfl ?_
      exact xlfV h
set_option maxRecDepth 4000 in
theorem bX12_means_144_69_i (v1 : Int32) (m : xmm) {z : xmm} (h : (if (m.1 144 10) ≤ v1 then some m else xgd (xinb 403 v1) (if (m.1 147 (v1).toNatClampNeg) = (21 : Int32) then (fX12_meansNames_144 v1 m).bind fun (w2 : xmm) => bX12_means_144_104 v1 w2 else if (m.1 147 (v1).toNatClampNeg) = (22 : Int32) then (fX12_meansNames_144 v1 m).bind fun (w4 : xmm) => bX12_means_144_104 v1 w4 else bX12_means_144_104 v1 m)) = some z) : bX12_means_144_69 v1 m = some z := by
  refine xstV ?_
  show xT 175 2 69 [(0, .ref 144), (1, .int v1)] [] m (none, z)
  refine e_iload_n rfl rfl (xnm_no rfl) ?_
  refine e_aload_n rfl rfl rfl (xnm_no rfl) ?_
  refine e_getI rfl rfl rfl rfl (xnm_no rfl) ?_
  refine e_icmp_ge (t := 126) rfl rfl (xnm_no rfl) (xnm_no rfl) h (fun h => ?_) (fun h => ?_)
  · cases h
    exact e_retV rfl rfl
  · refine e_aload_n rfl rfl rfl (xnm_no rfl) ?_
    refine e_getR (r := 147) rfl rfl rfl rfl rfl (xnm_no rfl) ?_
    refine e_iload_n rfl rfl (xnm_no rfl) ?_
    obtain ⟨g1, h⟩ := xgd_some h
    refine e_iald rfl g1 (xnm_no rfl) ?_
    refine e_bipush (x := 21) rfl (by decide) (xnm_no rfl) ?_
    refine e_icmp_eq (t := 99) rfl rfl (xnm_no rfl) (xnm_no rfl) h (fun h => ?_) (fun h => ?_)
    · refine e_aload_n rfl rfl rfl (xnm_no rfl) ?_
      refine e_iload_n rfl rfl (xnm_no rfl) ?_
      obtain ⟨w2, hw3, h⟩ := xbd_some h
      refine e_cVV (hc := hw3) (rest := []) rfl rfl rfl rfl rfl rfl rfl rfl rfl ?_
      exact xlfV h
    · refine e_aload_n rfl rfl rfl (xnm_no rfl) ?_
      refine e_getR (r := 147) rfl rfl rfl rfl rfl (xnm_no rfl) ?_
      refine e_iload_n rfl rfl (xnm_no rfl) ?_
      refine e_iald rfl g1 (xnm_no rfl) ?_
      refine e_bipush (x := 22) rfl (by decide) (xnm_no rfl) ?_
      refine e_icmp_ne (t := 104) rfl rfl rfl (xnm_no rfl) h (fun h => ?_) (fun h => ?_)
      · exact xlfV h
      · refine e_aload_n rfl rfl rfl (xnm_no rfl) ?_
        refine e_iload_n rfl rfl (xnm_no rfl) ?_
        obtain ⟨w4, hw5, h⟩ := xbd_some h
        refine e_cVV (hc := hw5) (rest := []) rfl rfl rfl rfl rfl rfl rfl rfl rfl ?_
        exact xlfV h
set_option maxRecDepth 4000 in
theorem bX12_means_144_36_i (v1 : Int32) (m : xmm) {z : xmm} (h : (xgd (xinb 403 v1) (xgd (xinb 8 (m.1 144 20)) (xlt (xwj m 154 ((m.1 144 20)).toNatClampNeg (m.2 150 (v1).toNatClampNeg)) fun (m3 : xmm) => xlt (xwi m3 144 20 ((m3.1 144 20) + (1 : Int32))) fun (m4 : xmm) => bX12_means_144_7 (v1 + (1 : Int32)) m4))) = some z) : bX12_means_144_36 v1 m = some z := by
  refine xstV ?_
  show xT 175 2 36 [(0, .ref 144), (1, .int v1)] [] m (none, z)
  refine e_aload_n rfl rfl rfl (xnm_no rfl) ?_
  refine e_getR (r := 154) rfl rfl rfl rfl rfl (xnm_no rfl) ?_
  refine e_aload_n rfl rfl rfl (xnm_no rfl) ?_
  refine e_getI rfl rfl rfl rfl (xnm_no rfl) ?_
  refine e_aload_n rfl rfl rfl (xnm_no rfl) ?_
  refine e_getR (r := 150) rfl rfl rfl rfl rfl (xnm_no rfl) ?_
  refine e_iload_n rfl rfl (xnm_no rfl) ?_
  obtain ⟨g1, h⟩ := xgd_some h
  refine e_lald rfl g1 (xnm_no rfl) ?_
  obtain ⟨g2, h⟩ := xgd_some h
  refine e_last rfl g2 (xnm_no rfl) ?_
  replace h := xlt_b h
  refine e_aload_n rfl rfl rfl (xnm_no rfl) ?_
  refine e_dup rfl rfl (xnm_no rfl) ?_
  refine e_getI rfl rfl rfl rfl (xnm_no rfl) ?_
  refine e_iconst (x := 1) rfl (by decide) (xnm_no rfl) ?_
  refine e_iadd rfl (xnm_no rfl) ?_
  refine e_putI rfl rfl rfl rfl (xnm_no rfl) ?_
  replace h := xlt_b h
  refine e_iinc (y := 1) rfl rfl rfl (by decide) (xnm_no rfl) ?_
  refine e_goto (t := 7) rfl rfl rfl ?_
  exact xlfV h
set_option maxRecDepth 4000 in
theorem bX12_means_144_104_i (v1 : Int32) (m : xmm) {z : xmm} (h : (xgd (xinb 403 v1) (if (m.1 147 (v1).toNatClampNeg) = (23 : Int32) then (fX12_meansCross_144 v1 m).bind fun (w2 : xmm) => bX12_means_144_69 (v1 + (1 : Int32)) w2 else bX12_means_144_69 (v1 + (1 : Int32)) m)) = some z) : bX12_means_144_104 v1 m = some z := by
  refine xstV ?_
  show xT 175 2 104 [(0, .ref 144), (1, .int v1)] [] m (none, z)
  refine e_aload_n rfl rfl rfl (xnm_no rfl) ?_
  refine e_getR (r := 147) rfl rfl rfl rfl rfl (xnm_no rfl) ?_
  refine e_iload_n rfl rfl (xnm_no rfl) ?_
  obtain ⟨g1, h⟩ := xgd_some h
  refine e_iald rfl g1 (xnm_no rfl) ?_
  refine e_bipush (x := 23) rfl (by decide) (xnm_no rfl) ?_
  refine e_icmp_ne (t := 120) rfl rfl (xnm_no rfl) (xnm_no rfl) h (fun h => ?_) (fun h => ?_)
  · refine e_iinc (y := 1) rfl rfl rfl (by decide) (xnm_no rfl) ?_
    refine e_goto (t := 69) rfl rfl rfl ?_
    exact xlfV h
  · refine e_aload_n rfl rfl rfl (xnm_no rfl) ?_
    refine e_iload_n rfl rfl (xnm_no rfl) ?_
    obtain ⟨w2, hw3, h⟩ := xbd_some h
    refine e_cVV (hc := hw3) (rest := []) rfl rfl rfl rfl rfl rfl rfl rfl (xnm_no rfl) ?_
    refine e_iinc (y := 1) rfl rfl rfl (by decide) (xnm_no rfl) ?_
    refine e_goto (t := 69) rfl rfl rfl ?_
    exact xlfV h
set_option maxRecDepth 4000 in
theorem fX12_copies_i (v0 : Nat) (v1 : Nat) (m : xmm) {z : xmm} (h : (bX12_copies_2 v0 v1 (0 : Int32) m) = some z) : fX12_copies v0 v1 m = some z := by
  refine xstV ?_
  show xT 183 0 0 [(0, .ref v0), (1, .ref v1)] [] m (none, z)
  refine e_iconst (x := 0) rfl (by decide) (xnm_no rfl) ?_
  refine e_istore_n rfl rfl rfl ?_
  exact xlfV h
set_option maxRecDepth 4000 in
theorem bX12_copies_2_i (v0 : Nat) (v1 : Nat) (v2 : Int32) (m : xmm) {z : xmm} (h : (if (9 : Int32) ≤ v2 then some m else xgd (!(Nat.beq v1 1999)) (xgd (!(Nat.beq v0 1999)) (xgd (xia 1 v0 v2) (xgd (xia 1 v1 v2) (xlt (xwi m v1 (v2).toNatClampNeg (m.1 v0 (v2).toNatClampNeg)) fun (m5 : xmm) => bX12_copies_2 v0 v1 (v2 + (1 : Int32)) m5))))) = some z) : bX12_copies_2 v0 v1 v2 m = some z := by
  refine xstV ?_
  show xT 183 0 2 [(0, .ref v0), (1, .ref v1), (2, .int v2)] [] m (none, z)
  refine e_iload_n rfl rfl (xnm_no rfl) ?_
  refine e_bipush (x := 9) rfl (by decide) (xnm_no rfl) ?_
  refine e_icmp_ge (t := 20) rfl rfl (xnm_no rfl) (xnm_no rfl) h (fun h => ?_) (fun h => ?_)
  · cases h
    exact e_retV rfl rfl
  · obtain ⟨g1, h⟩ := xgd_some h
    refine e_aload_n rfl rfl (xnb g1) (xnm_no rfl) ?_
    refine e_iload_n rfl rfl (xnm_no rfl) ?_
    obtain ⟨g2, h⟩ := xgd_some h
    refine e_aload_n rfl rfl (xnb g2) (xnm_no rfl) ?_
    refine e_iload_n rfl rfl (xnm_no rfl) ?_
    obtain ⟨g3, h⟩ := xgd_some h
    refine e_iald rfl g3 (xnm_no rfl) ?_
    obtain ⟨g4, h⟩ := xgd_some h
    refine e_iast rfl g4 (xnm_no rfl) ?_
    replace h := xlt_b h
    refine e_iinc (y := 1) rfl rfl rfl (by decide) (xnm_no rfl) ?_
    refine e_goto (t := 2) rfl rfl rfl ?_
    exact xlfV h
set_option maxRecDepth 4000 in
theorem fX12_read_144_i (m : xmm) {z : Int32 × xmm} (h : (xlt (xwi m 144 4 (m.1 144 2)) fun (m1 : xmm) => bX12_read_144_10 (0 : Int32) m1) = some z) : fX12_read_144 m = some z := by
  refine xstI ?_
  show xT 171 4 0 [(0, .ref 144)] [] m (some (.int z.1), z.2)
  refine e_aload_n rfl rfl rfl (xnm_no rfl) ?_
  refine e_aload_n rfl rfl rfl (xnm_no rfl) ?_
  refine e_getI rfl rfl rfl rfl (xnm_no rfl) ?_
  refine e_putI rfl rfl rfl rfl (xnm_no rfl) ?_
  replace h := xlt_b h
  refine e_iconst (x := 0) rfl (by decide) (xnm_no rfl) ?_
  refine e_istore_n rfl rfl rfl ?_
  exact xlfI h
set_option maxRecDepth 4000 in
theorem bX12_read_144_10_i (v1 : Int32) (m : xmm) {z : Int32 × xmm} (h : (if (m.1 144 4) ≤ v1 then xlt (xwi m 144 2 (0 : Int32)) fun (m1 : xmm) => (fX12_cutsText_144 m1).bind fun (w2 : xmm) => xlt (xwi w2 144 11 (0 : Int32)) fun (m4 : xmm) => xlt (xwi m4 144 12 (0 : Int32)) fun (m5 : xmm) => xlt (xwi m5 144 14 (0 : Int32)) fun (m6 : xmm) => xlt (xwi m6 144 20 (0 : Int32)) fun (m7 : xmm) => (fX12_must_144 (20 : Int32) m7).bind fun (w8 : xmm) => bX12_read_144_71 w8 else xgd (xinb 2000 v1) (xlt (xwi m 146 (v1).toNatClampNeg (Int32.toInt8 (m.1 145 (v1).toNatClampNeg)).toInt32) fun (m11 : xmm) => bX12_read_144_10 (v1 + (1 : Int32)) m11)) = some z) : bX12_read_144_10 v1 m = some z := by
  refine xstI ?_
  show xT 171 4 10 [(0, .ref 144), (1, .int v1)] [] m (some (.int z.1), z.2)
  refine e_iload_n rfl rfl (xnm_no rfl) ?_
  refine e_aload_n rfl rfl rfl (xnm_no rfl) ?_
  refine e_getI rfl rfl rfl rfl (xnm_no rfl) ?_
  refine e_icmp_ge (t := 36) rfl rfl (xnm_no rfl) (xnm_no rfl) h (fun h => ?_) (fun h => ?_)
  · refine e_aload_n rfl rfl rfl (xnm_no rfl) ?_
    refine e_iconst (x := 0) rfl (by decide) (xnm_no rfl) ?_
    refine e_putI rfl rfl rfl rfl (xnm_no rfl) ?_
    replace h := xlt_b h
    refine e_aload_n rfl rfl rfl (xnm_no rfl) ?_
    obtain ⟨w2, hw3, h⟩ := xbd_some h
    refine e_cVV (hc := hw3) (rest := []) rfl rfl rfl rfl rfl rfl rfl rfl (xnm_no rfl) ?_
    refine e_aload_n rfl rfl rfl (xnm_no rfl) ?_
    refine e_iconst (x := 0) rfl (by decide) (xnm_no rfl) ?_
    refine e_putI rfl rfl rfl rfl (xnm_no rfl) ?_
    replace h := xlt_b h
    refine e_aload_n rfl rfl rfl (xnm_no rfl) ?_
    refine e_iconst (x := 0) rfl (by decide) (xnm_no rfl) ?_
    refine e_putI rfl rfl rfl rfl (xnm_no rfl) ?_
    replace h := xlt_b h
    refine e_aload_n rfl rfl rfl (xnm_no rfl) ?_
    refine e_iconst (x := 0) rfl (by decide) (xnm_no rfl) ?_
    refine e_putI rfl rfl rfl rfl (xnm_no rfl) ?_
    replace h := xlt_b h
    refine e_aload_n rfl rfl rfl (xnm_no rfl) ?_
    refine e_iconst (x := 0) rfl (by decide) (xnm_no rfl) ?_
    refine e_putI rfl rfl rfl rfl (xnm_no rfl) ?_
    replace h := xlt_b h
    refine e_aload_n rfl rfl rfl (xnm_no rfl) ?_
    refine e_bipush (x := 20) rfl (by decide) (xnm_no rfl) ?_
    obtain ⟨w8, hw9, h⟩ := xbd_some h
    refine e_cVV (hc := hw9) (rest := []) rfl rfl rfl rfl rfl rfl rfl rfl rfl ?_
    exact xlfI h
  · refine e_aload_n rfl rfl rfl (xnm_no rfl) ?_
    refine e_getR (r := 146) rfl rfl rfl rfl rfl (xnm_no rfl) ?_
    refine e_iload_n rfl rfl (xnm_no rfl) ?_
    refine e_aload_n rfl rfl rfl (xnm_no rfl) ?_
    refine e_getR (r := 145) rfl rfl rfl rfl rfl (xnm_no rfl) ?_
    refine e_iload_n rfl rfl (xnm_no rfl) ?_
    obtain ⟨g10, h⟩ := xgd_some h
    refine e_bald rfl (xor1 g10) (xnm_no rfl) ?_
    refine e_bast rfl g10 (xnm_no rfl) ?_
    replace h := xlt_b h
    refine e_iinc (y := 1) rfl rfl rfl (by decide) (xnm_no rfl) ?_
    refine e_goto (t := 10) rfl rfl rfl ?_
    exact xlfI h
set_option maxRecDepth 4000 in
theorem bX12_read_144_71_i (m : xmm) {z : Int32 × xmm} (h : ((fX12_is_144 (1 : Int32) m).bind fun (w1 : Int32 × xmm) => if w1.1 = 0 then (fX12_must_144 (4 : Int32) w1.2).bind fun (w3 : xmm) => bX12_read_144_118 w3 else if (w1.2.1 144 20) = (8 : Int32) then (fX12_fail_144 (2 : Int32) w1.2).bind fun (w7 : xmm) => bX12_read_144_100 w7 else (fX12_passes_144 w1.2).bind fun (w5 : xmm) => bX12_read_144_100 w5) = some z) : bX12_read_144_71 m = some z := by
  refine xstI ?_
  show xT 171 4 71 [(0, .ref 144)] [] m (some (.int z.1), z.2)
  refine e_aload_n rfl rfl rfl (xnm_no rfl) ?_
  refine e_iconst (x := 1) rfl (by decide) (xnm_no rfl) ?_
  obtain ⟨w1, hw2, h⟩ := xbd_some h
  refine e_cIV (hc := hw2) (rest := []) rfl rfl rfl rfl rfl rfl rfl rfl (xnm_no rfl) ?_
  refine e_if_eq (t := 113) rfl rfl (xnm_no rfl) (xnm_no rfl) h (fun h => ?_) (fun h => ?_)
  · refine e_aload_n rfl rfl rfl (xnm_no rfl) ?_
    refine e_iconst (x := 4) rfl (by decide) (xnm_no rfl) ?_
    obtain ⟨w3, hw4, h⟩ := xbd_some h
    refine e_cVV (hc := hw4) (rest := []) rfl rfl rfl rfl rfl rfl rfl rfl rfl ?_
    exact xlfI h
  · refine e_aload_n rfl rfl rfl (xnm_no rfl) ?_
    refine e_getI rfl rfl rfl rfl (xnm_no rfl) ?_
    refine e_bipush (x := 8) rfl (by decide) (xnm_no rfl) ?_
    refine e_icmp_ne (t := 96) rfl rfl (xnm_no rfl) (xnm_no rfl) h (fun h => ?_) (fun h => ?_)
    · refine e_aload_n rfl rfl rfl (xnm_no rfl) ?_
      obtain ⟨w5, hw6, h⟩ := xbd_some h
      refine e_cVV (hc := hw6) (rest := []) rfl rfl rfl rfl rfl rfl rfl rfl rfl ?_
      exact xlfI h
    · refine e_aload_n rfl rfl rfl (xnm_no rfl) ?_
      refine e_iconst (x := 2) rfl (by decide) (xnm_no rfl) ?_
      obtain ⟨w7, hw8, h⟩ := xbd_some h
      refine e_cVV (hc := hw8) (rest := []) rfl rfl rfl rfl rfl rfl rfl rfl (xnm_no rfl) ?_
      refine e_goto (t := 100) rfl rfl rfl ?_
      exact xlfI h
set_option maxRecDepth 4000 in
theorem bX12_read_144_118_i (m : xmm) {z : Int32 × xmm} (h : (if (m.1 144 12) = 0 then (fX12_is_144 (0 : Int32) m).bind fun (w1 : Int32 × xmm) => if w1.1 = 0 then (fX12_tellLine_144 w1.2).bind fun (w3 : xmm) => bX12_read_144_118 w3 else bX12_read_144_142 (0 : Int32) w1.2 else bX12_read_144_142 (0 : Int32) m) = some z) : bX12_read_144_118 m = some z := by
  refine xstI ?_
  show xT 171 4 118 [(0, .ref 144)] [] m (some (.int z.1), z.2)
  refine e_aload_n rfl rfl rfl (xnm_no rfl) ?_
  refine e_getI rfl rfl rfl rfl (xnm_no rfl) ?_
  refine e_if_ne (t := 140) rfl rfl (xnm_no rfl) (xnm_no rfl) h (fun h => ?_) (fun h => ?_)
  · refine e_iconst (x := 0) rfl (by decide) (xnm_no rfl) ?_
    refine e_istore_n rfl rfl rfl ?_
    exact xlfI h
  · refine e_aload_n rfl rfl rfl (xnm_no rfl) ?_
    refine e_iconst (x := 0) rfl (by decide) (xnm_no rfl) ?_
    obtain ⟨w1, hw2, h⟩ := xbd_some h
    refine e_cIV (hc := hw2) (rest := []) rfl rfl rfl rfl rfl rfl rfl rfl (xnm_no rfl) ?_
    refine e_if_ne (t := 140) rfl rfl (xnm_no rfl) (xnm_no rfl) h (fun h => ?_) (fun h => ?_)
    · refine e_iconst (x := 0) rfl (by decide) (xnm_no rfl) ?_
      refine e_istore_n rfl rfl rfl ?_
      exact xlfI h
    · refine e_aload_n rfl rfl rfl (xnm_no rfl) ?_
      obtain ⟨w3, hw4, h⟩ := xbd_some h
      refine e_cVV (hc := hw4) (rest := []) rfl rfl rfl rfl rfl rfl rfl rfl (xnm_no rfl) ?_
      refine e_goto (t := 118) rfl rfl rfl ?_
      exact xlfI h
set_option maxRecDepth 4000 in
theorem bX12_read_144_100_i (m : xmm) {z : Int32 × xmm} (h : (xlt (xwi m 144 20 ((m.1 144 20) + (1 : Int32))) fun (m1 : xmm) => bX12_read_144_71 m1) = some z) : bX12_read_144_100 m = some z := by
  refine xstI ?_
  show xT 171 4 100 [(0, .ref 144)] [] m (some (.int z.1), z.2)
  refine e_aload_n rfl rfl rfl (xnm_no rfl) ?_
  refine e_dup rfl rfl (xnm_no rfl) ?_
  refine e_getI rfl rfl rfl rfl (xnm_no rfl) ?_
  refine e_iconst (x := 1) rfl (by decide) (xnm_no rfl) ?_
  refine e_iadd rfl (xnm_no rfl) ?_
  refine e_putI rfl rfl rfl rfl (xnm_no rfl) ?_
  replace h := xlt_b h
  refine e_goto (t := 71) rfl rfl rfl ?_
  exact xlfI h
set_option maxRecDepth 4000 in
theorem bX12_read_144_142_i (v1 : Int32) (m : xmm) {z : Int32 × xmm} (h : (if (9 : Int32) ≤ v1 then if (m.1 144 12) = 0 then (fX12_means_144 m).bind fun (w1 : xmm) => bX12_read_144_172 w1 else bX12_read_144_172 m else xgd (xinb 9 v1) (xlt (xwi m 153 (v1).toNatClampNeg (0 : Int32)) fun (m4 : xmm) => bX12_read_144_142 (v1 + (1 : Int32)) m4)) = some z) : bX12_read_144_142 v1 m = some z := by
  refine xstI ?_
  show xT 171 4 142 [(0, .ref 144), (1, .int v1)] [] m (some (.int z.1), z.2)
  refine e_iload_n rfl rfl (xnm_no rfl) ?_
  refine e_bipush (x := 9) rfl (by decide) (xnm_no rfl) ?_
  refine e_icmp_ge (t := 161) rfl rfl (xnm_no rfl) (xnm_no rfl) h (fun h => ?_) (fun h => ?_)
  · refine e_aload_n rfl rfl rfl (xnm_no rfl) ?_
    refine e_getI rfl rfl rfl rfl (xnm_no rfl) ?_
    refine e_if_ne (t := 172) rfl rfl rfl (xnm_no rfl) h (fun h => ?_) (fun h => ?_)
    · exact xlfI h
    · refine e_aload_n rfl rfl rfl (xnm_no rfl) ?_
      obtain ⟨w1, hw2, h⟩ := xbd_some h
      refine e_cVV (hc := hw2) (rest := []) rfl rfl rfl rfl rfl rfl rfl rfl rfl ?_
      exact xlfI h
  · refine e_aload_n rfl rfl rfl (xnm_no rfl) ?_
    refine e_getR (r := 153) rfl rfl rfl rfl rfl (xnm_no rfl) ?_
    refine e_iload_n rfl rfl (xnm_no rfl) ?_
    refine e_iconst (x := 0) rfl (by decide) (xnm_no rfl) ?_
    obtain ⟨g3, h⟩ := xgd_some h
    refine e_iast rfl g3 (xnm_no rfl) ?_
    replace h := xlt_b h
    refine e_iinc (y := 1) rfl rfl rfl (by decide) (xnm_no rfl) ?_
    refine e_goto (t := 142) rfl rfl rfl ?_
    exact xlfI h
set_option maxRecDepth 4000 in
theorem bX12_read_144_172_i (m : xmm) {z : Int32 × xmm} (h : (if (m.1 144 12) ≤ 0 then if (m.1 144 14) ≤ 0 then bX12_read_144_202 (-1 : Int32) m else bX12_read_144_202 (m.1 144 15) m else bX12_read_144_202 (m.1 144 13) m) = some z) : bX12_read_144_172 m = some z := by
  refine xstI ?_
  show xT 171 4 172 [(0, .ref 144)] [] m (some (.int z.1), z.2)
  refine e_aload_n rfl rfl rfl (xnm_no rfl) ?_
  refine e_aload_n rfl rfl rfl (xnm_no rfl) ?_
  refine e_getI rfl rfl rfl rfl (xnm_no rfl) ?_
  refine e_if_le (t := 187) rfl rfl (xnm_no rfl) (xnm_no rfl) h (fun h => ?_) (fun h => ?_)
  · refine e_aload_n rfl rfl rfl (xnm_no rfl) ?_
    refine e_getI rfl rfl rfl rfl (xnm_no rfl) ?_
    refine e_if_le (t := 201) rfl rfl (xnm_no rfl) (xnm_no rfl) h (fun h => ?_) (fun h => ?_)
    · refine e_iconst (x := -1) rfl (by decide) rfl ?_
      exact xlfI h
    · refine e_aload_n rfl rfl rfl (xnm_no rfl) ?_
      refine e_getI rfl rfl rfl rfl (xnm_no rfl) ?_
      refine e_goto (t := 202) rfl rfl rfl ?_
      exact xlfI h
  · refine e_aload_n rfl rfl rfl (xnm_no rfl) ?_
    refine e_getI rfl rfl rfl rfl (xnm_no rfl) ?_
    refine e_goto (t := 202) rfl rfl rfl ?_
    exact xlfI h
set_option maxRecDepth 4000 in
theorem bX12_read_144_202_i (s1 : Int32) (m : xmm) {z : Int32 × xmm} (h : (xlt (xwi m 144 16 s1) fun (m1 : xmm) => if (m1.1 144 12) ≤ 0 then if (m1.1 144 14) ≤ 0 then xlt (xwi m1 144 17 (m1.1 144 20)) fun (m2 : xmm) => (fX12_copies 153 152 m2).bind fun (w3 : xmm) => xlt (xwi w3 144 25 (0 : Int32)) fun (m5 : xmm) => bX12_read_144_255 (0 : Int32) m5 else some ((m1.1 144 14), m1) else some ((m1.1 144 12), m1)) = some z) : bX12_read_144_202 s1 m = some z := by
  refine xstI ?_
  show xT 171 4 202 [(0, .ref 144)] [.int s1, .ref 144] m (some (.int z.1), z.2)
  refine e_putI rfl rfl rfl rfl (xnm_no rfl) ?_
  replace h := xlt_b h
  refine e_aload_n rfl rfl rfl (xnm_no rfl) ?_
  refine e_getI rfl rfl rfl rfl (xnm_no rfl) ?_
  refine e_if_le (t := 217) rfl rfl (xnm_no rfl) (xnm_no rfl) h (fun h => ?_) (fun h => ?_)
  · refine e_aload_n rfl rfl rfl (xnm_no rfl) ?_
    refine e_getI rfl rfl rfl rfl (xnm_no rfl) ?_
    refine e_if_le (t := 229) rfl rfl (xnm_no rfl) (xnm_no rfl) h (fun h => ?_) (fun h => ?_)
    · refine e_aload_n rfl rfl rfl (xnm_no rfl) ?_
      refine e_aload_n rfl rfl rfl (xnm_no rfl) ?_
      refine e_getI rfl rfl rfl rfl (xnm_no rfl) ?_
      refine e_putI rfl rfl rfl rfl (xnm_no rfl) ?_
      replace h := xlt_b h
      refine e_aload_n rfl rfl rfl (xnm_no rfl) ?_
      refine e_getR (r := 153) rfl rfl rfl rfl rfl (xnm_no rfl) ?_
      refine e_aload_n rfl rfl rfl (xnm_no rfl) ?_
      refine e_getR (r := 152) rfl rfl rfl rfl rfl (xnm_no rfl) ?_
      obtain ⟨w3, hw4, h⟩ := xbd_some h
      refine e_cVS (hc := hw4) (rest := []) rfl rfl rfl rfl rfl rfl rfl rfl (xnm_no rfl) ?_
      refine e_aload_n rfl rfl rfl (xnm_no rfl) ?_
      refine e_iconst (x := 0) rfl (by decide) (xnm_no rfl) ?_
      refine e_putI rfl rfl rfl rfl (xnm_no rfl) ?_
      replace h := xlt_b h
      refine e_iconst (x := 0) rfl (by decide) (xnm_no rfl) ?_
      refine e_istore_n rfl rfl rfl ?_
      exact xlfI h
    · refine e_aload_n rfl rfl rfl (xnm_no rfl) ?_
      refine e_getI rfl rfl rfl rfl (xnm_no rfl) ?_
      cases h
      exact e_retI rfl rfl
  · refine e_aload_n rfl rfl rfl (xnm_no rfl) ?_
    refine e_getI rfl rfl rfl rfl (xnm_no rfl) ?_
    cases h
    exact e_retI rfl rfl
set_option maxRecDepth 4000 in
theorem bX12_read_144_255_i (v1 : Int32) (m : xmm) {z : Int32 × xmm} (h : (if (3 : Int32) ≤ v1 then some ((0 : Int32), m) else xgd (xinb 3 v1) (xlt (xwi m 158 (v1).toNatClampNeg (0 : Int32)) fun (m2 : xmm) => bX12_read_144_255 (v1 + (1 : Int32)) m2)) = some z) : bX12_read_144_255 v1 m = some z := by
  refine xstI ?_
  show xT 171 4 255 [(0, .ref 144), (1, .int v1)] [] m (some (.int z.1), z.2)
  refine e_iload_n rfl rfl (xnm_no rfl) ?_
  refine e_iconst (x := 3) rfl (by decide) (xnm_no rfl) ?_
  refine e_icmp_ge (t := 273) rfl rfl (xnm_no rfl) (xnm_no rfl) h (fun h => ?_) (fun h => ?_)
  · refine e_iconst (x := 0) rfl (by decide) (xnm_no rfl) ?_
    cases h
    exact e_retI rfl rfl
  · refine e_aload_n rfl rfl rfl (xnm_no rfl) ?_
    refine e_getR (r := 158) rfl rfl rfl rfl rfl (xnm_no rfl) ?_
    refine e_iload_n rfl rfl (xnm_no rfl) ?_
    refine e_iconst (x := 0) rfl (by decide) (xnm_no rfl) ?_
    obtain ⟨g1, h⟩ := xgd_some h
    refine e_zast rfl g1 (by decide) (xnm_no rfl) ?_
    replace h := xlt_b h
    refine e_iinc (y := 1) rfl rfl rfl (by decide) (xnm_no rfl) ?_
    refine e_goto (t := 255) rfl rfl rfl ?_
    exact xlfI h
set_option maxRecDepth 4000 in
theorem fX11_place_0_i (m : xmm) {z : Int32 × xmm} (h : (some ((m.1 1 3), m)) = some z) : fX11_place_0 m = some z := by
  refine xstI ?_
  show xT 118 0 0 [(0, .ref 0)] [] m (some (.int z.1), z.2)
  refine e_aload_n rfl rfl rfl (xnm_no rfl) ?_
  refine e_getR (r := 1) rfl rfl rfl rfl rfl (xnm_no rfl) ?_
  refine e_getI rfl rfl rfl rfl (xnm_no rfl) ?_
  cases h
  exact e_retI rfl rfl
set_option maxRecDepth 4000 in
theorem fX12_place_144_i (m : xmm) {z : Int32 × xmm} (h : (some ((m.1 144 16), m)) = some z) : fX12_place_144 m = some z := by
  refine xstI ?_
  show xT 172 0 0 [(0, .ref 144)] [] m (some (.int z.1), z.2)
  refine e_aload_n rfl rfl rfl (xnm_no rfl) ?_
  refine e_getI rfl rfl rfl rfl (xnm_no rfl) ?_
  cases h
  exact e_retI rfl rfl
set_option maxRecDepth 4000 in
theorem fX4_keep_14_10_i (m : xmm) {z : xmm} (h : (xgd (xinb 40 (m.1 14 1)) (xgr (xR0 15 ((m.1 14 1)).toNatClampNeg) fun r2 => (fX3_copyFrom r2 10 m).bind fun (w4 : xmm) => xgd (xob r2 3) (xlt (xwi w4 14 1 (((w4.1 14 1) + (1 : Int32)) - ((w4.1 14 1) + (1 : Int32)) / (40 : Int32) * (40 : Int32))) fun (m7 : xmm) => xlt (xwi m7 14 2 (if (40 : Int32) < ((m7.1 14 2) + (1 : Int32)) then (40 : Int32) else ((m7.1 14 2) + (1 : Int32)))) fun (m8 : xmm) => some m8))) = some z) : fX4_keep_14_10 m = some z := by
  refine xstV ?_
  show xT 39 1 0 [(0, .ref 14), (1, .ref 10)] [] m (none, z)
  refine e_aload_n rfl rfl rfl (xnm_no rfl) ?_
  refine e_getR (r := 15) rfl rfl rfl rfl rfl (xnm_no rfl) ?_
  refine e_aload_n rfl rfl rfl (xnm_no rfl) ?_
  refine e_getI rfl rfl rfl rfl (xnm_no rfl) ?_
  obtain ⟨g1, h⟩ := xgd_some h
  obtain ⟨r2, hr3, h⟩ := xgr_some h
  refine e_aald rfl g1 rfl hr3 (xnm_no rfl) ?_
  refine e_aload_n rfl rfl rfl (xnm_no rfl) ?_
  obtain ⟨w4, hw5, h⟩ := xbd_some h
  obtain ⟨g6, h⟩ := xgd_some h
  refine e_cVV (hc := hw5) (rest := []) rfl rfl rfl rfl rfl (xorb g6) rfl rfl (xnm_no rfl) ?_
  refine e_aload_n rfl rfl rfl (xnm_no rfl) ?_
  refine e_aload_n rfl rfl rfl (xnm_no rfl) ?_
  refine e_getI rfl rfl rfl rfl (xnm_no rfl) ?_
  refine e_iconst (x := 1) rfl (by decide) (xnm_no rfl) ?_
  refine e_iadd rfl (xnm_no rfl) ?_
  refine e_bipush (x := 40) rfl (by decide) (xnm_no rfl) ?_
  refine e_irem rfl (by decide) (xnm_no rfl) ?_
  refine e_putI rfl rfl rfl rfl (xnm_no rfl) ?_
  replace h := xlt_b h
  refine e_aload_n rfl rfl rfl (xnm_no rfl) ?_
  refine e_aload_n rfl rfl rfl (xnm_no rfl) ?_
  refine e_getI rfl rfl rfl rfl (xnm_no rfl) ?_
  refine e_iconst (x := 1) rfl (by decide) (xnm_no rfl) ?_
  refine e_iadd rfl (xnm_no rfl) ?_
  refine e_bipush (x := 40) rfl (by decide) (xnm_no rfl) ?_
  refine e_min rfl rfl rfl (xnm_no rfl) ?_
  refine e_putI rfl rfl rfl rfl (xnm_no rfl) ?_
  replace h := xlt_b h
  cases h
  exact e_retV rfl rfl
set_option maxRecDepth 4000 in
theorem fX11_beforeChange_0_i (m : xmm) {z : xmm} (h : ((fX4_keep_14_10 m).bind fun (w1 : xmm) => xlt (xwi w1 0 6 (0 : Int32)) fun (m3 : xmm) => some m3) = some z) : fX11_beforeChange_0 m = some z := by
  refine xstV ?_
  show xT 149 2 0 [(0, .ref 0)] [] m (none, z)
  refine e_aload_n rfl rfl rfl (xnm_no rfl) ?_
  refine e_getR (r := 14) rfl rfl rfl rfl rfl (xnm_no rfl) ?_
  refine e_aload_n rfl rfl rfl (xnm_no rfl) ?_
  refine e_getR (r := 10) rfl rfl rfl rfl rfl (xnm_no rfl) ?_
  obtain ⟨w1, hw2, h⟩ := xbd_some h
  refine e_cVV (hc := hw2) (rest := []) rfl rfl rfl rfl rfl rfl rfl rfl (xnm_no rfl) ?_
  refine e_aload_n rfl rfl rfl (xnm_no rfl) ?_
  refine e_iconst (x := 0) rfl (by decide) (xnm_no rfl) ?_
  refine e_putI rfl rfl (by decide) rfl (xnm_no rfl) ?_
  replace h := xlt_b h
  cases h
  exact e_retV rfl rfl
set_option maxRecDepth 4000 in
theorem fX3_flip_i (v0 : Nat) (v1 : Int32) (v2 : Int32) (m : xmm) {z : xmm} (h : (xgd (!(Nat.beq v0 1999)) ((fX3_hasPair v0 v1 v2 m).bind fun (w2 : Int32 × xmm) => xgd (xob v0 3) (if w2.1 = 0 then some w2.2 else xgr (xR0 v0 2) fun r5 => xgd (xia 1 r5 v1) (xlt (xwi w2.2 r5 (v1).toNatClampNeg ((w2.2.1 r5 (v1).toNatClampNeg) ^^^ ((1 : Int32) <<< (v2 &&& 31)))) fun (m8 : xmm) => xgd (xia 1 r5 v2) (xlt (xwi m8 r5 (v2).toNatClampNeg ((m8.1 r5 (v2).toNatClampNeg) ^^^ ((1 : Int32) <<< (v1 &&& 31)))) fun (m10 : xmm) => some m10))))) = some z) : fX3_flip v0 v1 v2 m = some z := by
  refine xstV ?_
  show xT 34 2 0 [(0, .ref v0), (1, .int v1), (2, .int v2)] [] m (none, z)
  obtain ⟨g1, h⟩ := xgd_some h
  refine e_aload_n rfl rfl (xnb g1) (xnm_no rfl) ?_
  refine e_iload_n rfl rfl (xnm_no rfl) ?_
  refine e_iload_n rfl rfl (xnm_no rfl) ?_
  obtain ⟨w2, hw3, h⟩ := xbd_some h
  obtain ⟨g4, h⟩ := xgd_some h
  refine e_cIV (hc := hw3) (rest := []) rfl rfl rfl rfl rfl (xorb g4) rfl rfl (xnm_no rfl) ?_
  refine e_if_eq (t := 33) rfl rfl (xnm_no rfl) (xnm_no rfl) h (fun h => ?_) (fun h => ?_)
  · cases h
    exact e_retV rfl rfl
  · refine e_aload_n rfl rfl (xnb g1) (xnm_no rfl) ?_
    obtain ⟨r5, hr6, h⟩ := xgr_some h
    refine e_getR rfl rfl rfl g4 hr6 (xnm_no rfl) ?_
    refine e_iload_n rfl rfl (xnm_no rfl) ?_
    refine e_dup2 rfl rfl rfl (xnm_no rfl) ?_
    obtain ⟨g7, h⟩ := xgd_some h
    refine e_iald rfl g7 (xnm_no rfl) ?_
    refine e_iconst (x := 1) rfl (by decide) (xnm_no rfl) ?_
    refine e_iload_n rfl rfl (xnm_no rfl) ?_
    refine e_ishl rfl (xnm_no rfl) ?_
    refine e_ixor rfl (xnm_no rfl) ?_
    refine e_iast rfl g7 (xnm_no rfl) ?_
    replace h := xlt_b h
    refine e_aload_n rfl rfl (xnb g1) (xnm_no rfl) ?_
    refine e_getR rfl rfl rfl g4 hr6 (xnm_no rfl) ?_
    refine e_iload_n rfl rfl (xnm_no rfl) ?_
    refine e_dup2 rfl rfl rfl (xnm_no rfl) ?_
    obtain ⟨g9, h⟩ := xgd_some h
    refine e_iald rfl g9 (xnm_no rfl) ?_
    refine e_iconst (x := 1) rfl (by decide) (xnm_no rfl) ?_
    refine e_iload_n rfl rfl (xnm_no rfl) ?_
    refine e_ishl rfl (xnm_no rfl) ?_
    refine e_ixor rfl (xnm_no rfl) ?_
    refine e_iast rfl g9 (xnm_no rfl) ?_
    replace h := xlt_b h
    cases h
    exact e_retV rfl rfl
set_option maxRecDepth 4000 in
theorem fX11_line_0_i (v1 : Int32) (v2 : Int32) (m : xmm) {z : Int32 × xmm} (h : ((fX3_hasPair 10 v1 v2 m).bind fun (w1 : Int32 × xmm) => if w1.1 = 0 then some ((0 : Int32), w1.2) else (fX11_beforeChange_0 w1.2).bind fun (w3 : xmm) => (fX3_flip 10 v1 v2 w3).bind fun (w5 : xmm) => some ((1 : Int32), w5)) = some z) : fX11_line_0 v1 v2 m = some z := by
  refine xstI ?_
  show xT 119 3 0 [(0, .ref 0), (1, .int v1), (2, .int v2)] [] m (some (.int z.1), z.2)
  refine e_aload_n rfl rfl rfl (xnm_no rfl) ?_
  refine e_getR (r := 10) rfl rfl rfl rfl rfl (xnm_no rfl) ?_
  refine e_iload_n rfl rfl (xnm_no rfl) ?_
  refine e_iload_n rfl rfl (xnm_no rfl) ?_
  obtain ⟨w1, hw2, h⟩ := xbd_some h
  refine e_cIV (hc := hw2) (rest := []) rfl rfl rfl rfl rfl rfl rfl rfl (xnm_no rfl) ?_
  refine e_if_ne (t := 14) rfl rfl (xnm_no rfl) (xnm_no rfl) h (fun h => ?_) (fun h => ?_)
  · refine e_aload_n rfl rfl rfl (xnm_no rfl) ?_
    obtain ⟨w3, hw4, h⟩ := xbd_some h
    refine e_cVV (hc := hw4) (rest := []) rfl rfl rfl rfl rfl rfl rfl rfl (xnm_no rfl) ?_
    refine e_aload_n rfl rfl rfl (xnm_no rfl) ?_
    refine e_getR (r := 10) rfl rfl rfl rfl rfl (xnm_no rfl) ?_
    refine e_iload_n rfl rfl (xnm_no rfl) ?_
    refine e_iload_n rfl rfl (xnm_no rfl) ?_
    obtain ⟨w5, hw6, h⟩ := xbd_some h
    refine e_cVV (hc := hw6) (rest := []) rfl rfl rfl rfl rfl rfl rfl rfl (xnm_no rfl) ?_
    refine e_iconst (x := 1) rfl (by decide) (xnm_no rfl) ?_
    cases h
    exact e_retI rfl (by decide)
  · refine e_iconst (x := 0) rfl (by decide) (xnm_no rfl) ?_
    cases h
    exact e_retI rfl (by decide)
set_option maxRecDepth 4000 in
theorem fX12_in_i (v0 : Int32) (v1 : Int32) (v2 : Int32) (m : xmm) {z : Int32 × xmm} (h : (if v0 < v1 then some ((0 : Int32), m) else if v2 < v0 then some ((0 : Int32), m) else some ((1 : Int32), m)) = some z) : fX12_in v0 v1 v2 m = some z := by
  refine xstI ?_
  show xT 180 0 0 [(0, .int v0), (1, .int v1), (2, .int v2)] [] m (some (.int z.1), z.2)
  refine e_iload_n rfl rfl (xnm_no rfl) ?_
  refine e_iload_n rfl rfl (xnm_no rfl) ?_
  refine e_icmp_lt (t := 14) rfl rfl (xnm_no rfl) (xnm_no rfl) h (fun h => ?_) (fun h => ?_)
  · refine e_iconst (x := 0) rfl (by decide) (xnm_no rfl) ?_
    cases h
    exact e_retI rfl (by decide)
  · refine e_iload_n rfl rfl (xnm_no rfl) ?_
    refine e_iload_n rfl rfl (xnm_no rfl) ?_
    refine e_icmp_gt (t := 14) rfl rfl (xnm_no rfl) (xnm_no rfl) h (fun h => ?_) (fun h => ?_)
    · refine e_iconst (x := 0) rfl (by decide) (xnm_no rfl) ?_
      cases h
      exact e_retI rfl (by decide)
    · refine e_iconst (x := 1) rfl (by decide) (xnm_no rfl) ?_
      refine e_goto (t := 15) rfl rfl (xnm_no rfl) ?_
      cases h
      exact e_retI rfl (by decide)
set_option maxRecDepth 4000 in
theorem fX12_isPost_144_i (v1 : Int32) (m : xmm) {z : Int32 × xmm} (h : ((fX12_in v1 (0 : Int32) ((m.1 144 17) - (1 : Int32)) m).bind fun (w1 : Int32 × xmm) => xgd (xz01 w1.1) (some (w1.1, w1.2))) = some z) : fX12_isPost_144 v1 m = some z := by
  refine xstI ?_
  show xT 184 1 0 [(0, .ref 144), (1, .int v1)] [] m (some (.int z.1), z.2)
  refine e_iload_n rfl rfl (xnm_no rfl) ?_
  refine e_iconst (x := 0) rfl (by decide) (xnm_no rfl) ?_
  refine e_aload_n rfl rfl rfl (xnm_no rfl) ?_
  refine e_getI rfl rfl rfl rfl (xnm_no rfl) ?_
  refine e_iconst (x := 1) rfl (by decide) (xnm_no rfl) ?_
  refine e_isub rfl (xnm_no rfl) ?_
  obtain ⟨w1, hw2, h⟩ := xbd_some h
  refine e_cIS (hc := hw2) (rest := []) rfl rfl rfl rfl rfl rfl rfl rfl (xnm_no rfl) ?_
  obtain ⟨g3, h⟩ := xgd_some h
  cases h
  exact e_retI rfl g3
set_option maxRecDepth 4000 in
theorem fX12_marks_144_i (m : xmm) {z : xmm} (h : (if (m.1 144 25) = (40 : Int32) then xlt (xwi m 144 24 (((m.1 144 24) + (1 : Int32)) - ((m.1 144 24) + (1 : Int32)) / (40 : Int32) * (40 : Int32))) fun (m1 : xmm) => xlt (xwi m1 144 25 ((m1.1 144 25) - (1 : Int32))) fun (m2 : xmm) => bX12_marks_144_32 m2 else bX12_marks_144_32 m) = some z) : fX12_marks_144 m = some z := by
  refine xstV ?_
  show xT 185 0 0 [(0, .ref 144)] [] m (none, z)
  refine e_aload_n rfl rfl rfl (xnm_no rfl) ?_
  refine e_getI rfl rfl rfl rfl (xnm_no rfl) ?_
  refine e_bipush (x := 40) rfl (by decide) (xnm_no rfl) ?_
  refine e_icmp_ne (t := 32) rfl rfl rfl (xnm_no rfl) h (fun h => ?_) (fun h => ?_)
  · exact xlfV h
  · refine e_aload_n rfl rfl rfl (xnm_no rfl) ?_
    refine e_aload_n rfl rfl rfl (xnm_no rfl) ?_
    refine e_getI rfl rfl rfl rfl (xnm_no rfl) ?_
    refine e_iconst (x := 1) rfl (by decide) (xnm_no rfl) ?_
    refine e_iadd rfl (xnm_no rfl) ?_
    refine e_bipush (x := 40) rfl (by decide) (xnm_no rfl) ?_
    refine e_irem rfl (by decide) (xnm_no rfl) ?_
    refine e_putI rfl rfl rfl rfl (xnm_no rfl) ?_
    replace h := xlt_b h
    refine e_aload_n rfl rfl rfl (xnm_no rfl) ?_
    refine e_dup rfl rfl (xnm_no rfl) ?_
    refine e_getI rfl rfl rfl rfl (xnm_no rfl) ?_
    refine e_iconst (x := 1) rfl (by decide) (xnm_no rfl) ?_
    refine e_isub rfl (xnm_no rfl) ?_
    refine e_putI rfl rfl rfl rfl rfl ?_
    replace h := xlt_b h
    exact xlfV h
set_option maxRecDepth 4000 in
theorem bX12_marks_144_32_i (m : xmm) {z : xmm} (h : (xlt ((9 : Int32) * (((m.1 144 24) + (m.1 144 25)) - ((m.1 144 24) + (m.1 144 25)) / (40 : Int32) * (40 : Int32))) fun (x1 : Int32) => bX12_marks_144_50 x1 (0 : Int32) m) = some z) : bX12_marks_144_32 m = some z := by
  refine xstV ?_
  show xT 185 0 32 [(0, .ref 144)] [] m (none, z)
  refine e_bipush (x := 9) rfl (by decide) (xnm_no rfl) ?_
  refine e_aload_n rfl rfl rfl (xnm_no rfl) ?_
  refine e_getI rfl rfl rfl rfl (xnm_no rfl) ?_
  refine e_aload_n rfl rfl rfl (xnm_no rfl) ?_
  refine e_getI rfl rfl rfl rfl (xnm_no rfl) ?_
  refine e_iadd rfl (xnm_no rfl) ?_
  refine e_bipush (x := 40) rfl (by decide) (xnm_no rfl) ?_
  refine e_irem rfl (by decide) (xnm_no rfl) ?_
  refine e_imul rfl (xnm_no rfl) ?_
  replace h := xlt_b h
  refine e_istore_n rfl rfl (xnm_no rfl) ?_
  refine e_iconst (x := 0) rfl (by decide) (xnm_no rfl) ?_
  refine e_istore_n rfl rfl rfl ?_
  exact xlfV h
set_option maxRecDepth 4000 in
theorem bX12_marks_144_50_i (v1 : Int32) (v2 : Int32) (m : xmm) {z : xmm} (h : (if (9 : Int32) ≤ v2 then xlt (xwi m 144 25 ((m.1 144 25) + (1 : Int32))) fun (m1 : xmm) => some m1 else xgd (xinb 9 v2) (xgd (xinb 360 (v1 + v2)) (xlt (xwi m 156 ((v1 + v2)).toNatClampNeg (m.1 152 (v2).toNatClampNeg)) fun (m4 : xmm) => bX12_marks_144_50 v1 (v2 + (1 : Int32)) m4))) = some z) : bX12_marks_144_50 v1 v2 m = some z := by
  refine xstV ?_
  show xT 185 0 50 [(0, .ref 144), (1, .int v1), (2, .int v2)] [] m (none, z)
  refine e_iload_n rfl rfl (xnm_no rfl) ?_
  refine e_bipush (x := 9) rfl (by decide) (xnm_no rfl) ?_
  refine e_icmp_ge (t := 76) rfl rfl (xnm_no rfl) (xnm_no rfl) h (fun h => ?_) (fun h => ?_)
  · refine e_aload_n rfl rfl rfl (xnm_no rfl) ?_
    refine e_dup rfl rfl (xnm_no rfl) ?_
    refine e_getI rfl rfl rfl rfl (xnm_no rfl) ?_
    refine e_iconst (x := 1) rfl (by decide) (xnm_no rfl) ?_
    refine e_iadd rfl (xnm_no rfl) ?_
    refine e_putI rfl rfl rfl rfl (xnm_no rfl) ?_
    replace h := xlt_b h
    cases h
    exact e_retV rfl rfl
  · refine e_aload_n rfl rfl rfl (xnm_no rfl) ?_
    refine e_getR (r := 156) rfl rfl rfl rfl rfl (xnm_no rfl) ?_
    refine e_iload_n rfl rfl (xnm_no rfl) ?_
    refine e_iload_n rfl rfl (xnm_no rfl) ?_
    refine e_iadd rfl (xnm_no rfl) ?_
    refine e_aload_n rfl rfl rfl (xnm_no rfl) ?_
    refine e_getR (r := 152) rfl rfl rfl rfl rfl (xnm_no rfl) ?_
    refine e_iload_n rfl rfl (xnm_no rfl) ?_
    obtain ⟨g2, h⟩ := xgd_some h
    refine e_iald rfl g2 (xnm_no rfl) ?_
    obtain ⟨g3, h⟩ := xgd_some h
    refine e_iast rfl g3 (xnm_no rfl) ?_
    replace h := xlt_b h
    refine e_iinc (y := 1) rfl rfl rfl (by decide) (xnm_no rfl) ?_
    refine e_goto (t := 50) rfl rfl rfl ?_
    exact xlfV h
set_option maxRecDepth 4000 in
theorem fX12_line_144_i (v1 : Int32) (v2 : Int32) (m : xmm) {z : Int32 × xmm} (h : ((fX12_isPost_144 v1 m).bind fun (w1 : Int32 × xmm) => if w1.1 = 0 then some ((0 : Int32), w1.2) else (fX12_isPost_144 v2 w1.2).bind fun (w3 : Int32 × xmm) => if w3.1 = 0 then some ((0 : Int32), w3.2) else if v1 = v2 then some ((0 : Int32), w3.2) else (fX12_marks_144 w3.2).bind fun (w5 : xmm) => xgd (xinb 9 v1) (xlt (xwi w5 152 (v1).toNatClampNeg ((w5.1 152 (v1).toNatClampNeg) ^^^ ((1 : Int32) <<< (v2 &&& 31)))) fun (m8 : xmm) => xgd (xinb 9 v2) (xlt (xwi m8 152 (v2).toNatClampNeg ((m8.1 152 (v2).toNatClampNeg) ^^^ ((1 : Int32) <<< (v1 &&& 31)))) fun (m10 : xmm) => some ((1 : Int32), m10)))) = some z) : fX12_line_144 v1 v2 m = some z := by
  refine xstI ?_
  show xT 189 2 0 [(0, .ref 144), (1, .int v1), (2, .int v2)] [] m (some (.int z.1), z.2)
  refine e_aload_n rfl rfl rfl (xnm_no rfl) ?_
  refine e_iload_n rfl rfl (xnm_no rfl) ?_
  obtain ⟨w1, hw2, h⟩ := xbd_some h
  refine e_cIV (hc := hw2) (rest := []) rfl rfl rfl rfl rfl rfl rfl rfl (xnm_no rfl) ?_
  refine e_if_eq (t := 21) rfl rfl (xnm_no rfl) (xnm_no rfl) h (fun h => ?_) (fun h => ?_)
  · refine e_iconst (x := 0) rfl (by decide) (xnm_no rfl) ?_
    cases h
    exact e_retI rfl (by decide)
  · refine e_aload_n rfl rfl rfl (xnm_no rfl) ?_
    refine e_iload_n rfl rfl (xnm_no rfl) ?_
    obtain ⟨w3, hw4, h⟩ := xbd_some h
    refine e_cIV (hc := hw4) (rest := []) rfl rfl rfl rfl rfl rfl rfl rfl (xnm_no rfl) ?_
    refine e_if_eq (t := 21) rfl rfl (xnm_no rfl) (xnm_no rfl) h (fun h => ?_) (fun h => ?_)
    · refine e_iconst (x := 0) rfl (by decide) (xnm_no rfl) ?_
      cases h
      exact e_retI rfl (by decide)
    · refine e_iload_n rfl rfl (xnm_no rfl) ?_
      refine e_iload_n rfl rfl (xnm_no rfl) ?_
      refine e_icmp_ne (t := 23) rfl rfl (xnm_no rfl) (xnm_no rfl) h (fun h => ?_) (fun h => ?_)
      · refine e_aload_n rfl rfl rfl (xnm_no rfl) ?_
        obtain ⟨w5, hw6, h⟩ := xbd_some h
        refine e_cVV (hc := hw6) (rest := []) rfl rfl rfl rfl rfl rfl rfl rfl (xnm_no rfl) ?_
        refine e_aload_n rfl rfl rfl (xnm_no rfl) ?_
        refine e_getR (r := 152) rfl rfl rfl rfl rfl (xnm_no rfl) ?_
        refine e_iload_n rfl rfl (xnm_no rfl) ?_
        refine e_dup2 rfl rfl rfl (xnm_no rfl) ?_
        obtain ⟨g7, h⟩ := xgd_some h
        refine e_iald rfl g7 (xnm_no rfl) ?_
        refine e_iconst (x := 1) rfl (by decide) (xnm_no rfl) ?_
        refine e_iload_n rfl rfl (xnm_no rfl) ?_
        refine e_ishl rfl (xnm_no rfl) ?_
        refine e_ixor rfl (xnm_no rfl) ?_
        refine e_iast rfl g7 (xnm_no rfl) ?_
        replace h := xlt_b h
        refine e_aload_n rfl rfl rfl (xnm_no rfl) ?_
        refine e_getR (r := 152) rfl rfl rfl rfl rfl (xnm_no rfl) ?_
        refine e_iload_n rfl rfl (xnm_no rfl) ?_
        refine e_dup2 rfl rfl rfl (xnm_no rfl) ?_
        obtain ⟨g9, h⟩ := xgd_some h
        refine e_iald rfl g9 (xnm_no rfl) ?_
        refine e_iconst (x := 1) rfl (by decide) (xnm_no rfl) ?_
        refine e_iload_n rfl rfl (xnm_no rfl) ?_
        refine e_ishl rfl (xnm_no rfl) ?_
        refine e_ixor rfl (xnm_no rfl) ?_
        refine e_iast rfl g9 (xnm_no rfl) ?_
        replace h := xlt_b h
        refine e_iconst (x := 1) rfl (by decide) (xnm_no rfl) ?_
        cases h
        exact e_retI rfl (by decide)
      · refine e_iconst (x := 0) rfl (by decide) (xnm_no rfl) ?_
        cases h
        exact e_retI rfl (by decide)
set_option maxRecDepth 4000 in
theorem fX3_everyPost_i (v0 : Nat) (m : xmm) {z : Int32 × xmm} (h : (xgd (!(Nat.beq v0 1999)) (xgd (xob v0 3) (some ((((1 : Int32) <<< ((m.1 v0 0) &&& 31)) - (1 : Int32)), m)))) = some z) : fX3_everyPost v0 m = some z := by
  refine xstI ?_
  show xT 28 0 0 [(0, .ref v0)] [] m (some (.int z.1), z.2)
  refine e_iconst (x := 1) rfl (by decide) (xnm_no rfl) ?_
  obtain ⟨g1, h⟩ := xgd_some h
  refine e_aload_n rfl rfl (xnb g1) (xnm_no rfl) ?_
  obtain ⟨g2, h⟩ := xgd_some h
  refine e_getI rfl rfl rfl g2 (xnm_no rfl) ?_
  refine e_ishl rfl (xnm_no rfl) ?_
  refine e_iconst (x := 1) rfl (by decide) (xnm_no rfl) ?_
  refine e_isub rfl (xnm_no rfl) ?_
  cases h
  exact e_retI rfl rfl
set_option maxRecDepth 4000 in
theorem fX3_turnOver_i (v0 : Nat) (m : xmm) {z : xmm} (h : (bX3_turnOver_2 v0 (0 : Int32) m) = some z) : fX3_turnOver v0 m = some z := by
  refine xstV ?_
  show xT 35 1 0 [(0, .ref v0)] [] m (none, z)
  refine e_iconst (x := 0) rfl (by decide) (xnm_no rfl) ?_
  refine e_istore_n rfl rfl rfl ?_
  exact xlfV h
set_option maxRecDepth 4000 in
theorem bX3_turnOver_2_i (v0 : Nat) (v1 : Int32) (m : xmm) {z : xmm} (h : (xgd (!(Nat.beq v0 1999)) (xgd (xob v0 3) (if (m.1 v0 0) ≤ v1 then some m else if (8 : Int32) ≤ v1 then some m else xgr (xR0 v0 2) fun r3 => (fX3_everyPost v0 m).bind fun (w5 : Int32 × xmm) => xgd (xia 1 r3 v1) (xlt (xwi w5.2 r3 (v1).toNatClampNeg ((w5.1 &&& ((w5.2.1 r3 (v1).toNatClampNeg) ^^^ (-1 : Int32))) &&& (((1 : Int32) <<< (v1 &&& 31)) ^^^ (-1 : Int32)))) fun (m8 : xmm) => bX3_turnOver_2 v0 (v1 + (1 : Int32)) m8)))) = some z) : bX3_turnOver_2 v0 v1 m = some z := by
  refine xstV ?_
  show xT 35 1 2 [(0, .ref v0), (1, .int v1)] [] m (none, z)
  refine e_iload_n rfl rfl (xnm_no rfl) ?_
  obtain ⟨g1, h⟩ := xgd_some h
  refine e_aload_n rfl rfl (xnb g1) (xnm_no rfl) ?_
  obtain ⟨g2, h⟩ := xgd_some h
  refine e_getI rfl rfl rfl g2 (xnm_no rfl) ?_
  refine e_icmp_ge (t := 47) rfl rfl (xnm_no rfl) (xnm_no rfl) h (fun h => ?_) (fun h => ?_)
  · cases h
    exact e_retV rfl rfl
  · refine e_iload_n rfl rfl (xnm_no rfl) ?_
    refine e_bipush (x := 8) rfl (by decide) (xnm_no rfl) ?_
    refine e_icmp_ge (t := 47) rfl rfl (xnm_no rfl) (xnm_no rfl) h (fun h => ?_) (fun h => ?_)
    · cases h
      exact e_retV rfl rfl
    · refine e_aload_n rfl rfl (xnb g1) (xnm_no rfl) ?_
      obtain ⟨r3, hr4, h⟩ := xgr_some h
      refine e_getR rfl rfl rfl g2 hr4 (xnm_no rfl) ?_
      refine e_iload_n rfl rfl (xnm_no rfl) ?_
      refine e_aload_n rfl rfl (xnb g1) (xnm_no rfl) ?_
      obtain ⟨w5, hw6, h⟩ := xbd_some h
      refine e_cIV (hc := hw6) (rest := [.int _, .ref _]) rfl rfl rfl rfl rfl (xorb g2) rfl rfl (xnm_no rfl) ?_
      refine e_aload_n rfl rfl (xnb g1) (xnm_no rfl) ?_
      refine e_getR rfl rfl rfl g2 hr4 (xnm_no rfl) ?_
      refine e_iload_n rfl rfl (xnm_no rfl) ?_
      obtain ⟨g7, h⟩ := xgd_some h
      refine e_iald rfl g7 (xnm_no rfl) ?_
      refine e_iconst (x := -1) rfl (by decide) (xnm_no rfl) ?_
      refine e_ixor rfl (xnm_no rfl) ?_
      refine e_iand rfl (xnm_no rfl) ?_
      refine e_iconst (x := 1) rfl (by decide) (xnm_no rfl) ?_
      refine e_iload_n rfl rfl (xnm_no rfl) ?_
      refine e_ishl rfl (xnm_no rfl) ?_
      refine e_iconst (x := -1) rfl (by decide) (xnm_no rfl) ?_
      refine e_ixor rfl (xnm_no rfl) ?_
      refine e_iand rfl (xnm_no rfl) ?_
      refine e_iast rfl g7 (xnm_no rfl) ?_
      replace h := xlt_b h
      refine e_iinc (y := 1) rfl rfl rfl (by decide) (xnm_no rfl) ?_
      refine e_goto (t := 2) rfl rfl rfl ?_
      exact xlfV h
set_option maxRecDepth 4000 in
theorem fJ6_bitCount_i (v0 : Int32) (m : xmm) {z : Int32 × xmm} (h : (xlt (v0 - ((((v0).toUInt32 >>> (((1 : Int32)).toUInt32 &&& Int32.toUInt32 31)).toInt32) &&& (1431655765 : Int32))) fun (x1 : Int32) => xlt ((x1 &&& (858993459 : Int32)) + ((((x1).toUInt32 >>> (((2 : Int32)).toUInt32 &&& Int32.toUInt32 31)).toInt32) &&& (858993459 : Int32))) fun (x2 : Int32) => xlt ((x2 + (((x2).toUInt32 >>> (((4 : Int32)).toUInt32 &&& Int32.toUInt32 31)).toInt32)) &&& (252645135 : Int32)) fun (x3 : Int32) => xlt (x3 + (((x3).toUInt32 >>> (((8 : Int32)).toUInt32 &&& Int32.toUInt32 31)).toInt32)) fun (x4 : Int32) => xlt (x4 + (((x4).toUInt32 >>> (((16 : Int32)).toUInt32 &&& Int32.toUInt32 31)).toInt32)) fun (x5 : Int32) => some ((x5 &&& (63 : Int32)), m)) = some z) : fJ6_bitCount v0 m = some z := by
  refine xstI ?_
  show xT 256 0 0 [(0, .int v0)] [] m (some (.int z.1), z.2)
  refine e_iload_n rfl rfl (xnm_no rfl) ?_
  refine e_iload_n rfl rfl (xnm_no rfl) ?_
  refine e_iconst (x := 1) rfl (by decide) (xnm_no rfl) ?_
  refine e_iushr rfl (xnm_no rfl) ?_
  refine e_ldcw (v := 1431655765) rfl rfl (xnm_no rfl) ?_
  refine e_iand rfl (xnm_no rfl) ?_
  refine e_isub rfl (xnm_no rfl) ?_
  replace h := xlt_b h
  refine e_istore_n rfl rfl (xnm_no rfl) ?_
  refine e_iload_n rfl rfl (xnm_no rfl) ?_
  refine e_ldcw (v := 858993459) rfl rfl (xnm_no rfl) ?_
  refine e_iand rfl (xnm_no rfl) ?_
  refine e_iload_n rfl rfl (xnm_no rfl) ?_
  refine e_iconst (x := 2) rfl (by decide) (xnm_no rfl) ?_
  refine e_iushr rfl (xnm_no rfl) ?_
  refine e_ldcw (v := 858993459) rfl rfl (xnm_no rfl) ?_
  refine e_iand rfl (xnm_no rfl) ?_
  refine e_iadd rfl (xnm_no rfl) ?_
  replace h := xlt_b h
  refine e_istore_n rfl rfl (xnm_no rfl) ?_
  refine e_iload_n rfl rfl (xnm_no rfl) ?_
  refine e_iload_n rfl rfl (xnm_no rfl) ?_
  refine e_iconst (x := 4) rfl (by decide) (xnm_no rfl) ?_
  refine e_iushr rfl (xnm_no rfl) ?_
  refine e_iadd rfl (xnm_no rfl) ?_
  refine e_ldcw (v := 252645135) rfl rfl (xnm_no rfl) ?_
  refine e_iand rfl (xnm_no rfl) ?_
  replace h := xlt_b h
  refine e_istore_n rfl rfl (xnm_no rfl) ?_
  refine e_iload_n rfl rfl (xnm_no rfl) ?_
  refine e_iload_n rfl rfl (xnm_no rfl) ?_
  refine e_bipush (x := 8) rfl (by decide) (xnm_no rfl) ?_
  refine e_iushr rfl (xnm_no rfl) ?_
  refine e_iadd rfl (xnm_no rfl) ?_
  replace h := xlt_b h
  refine e_istore_n rfl rfl (xnm_no rfl) ?_
  refine e_iload_n rfl rfl (xnm_no rfl) ?_
  refine e_iload_n rfl rfl (xnm_no rfl) ?_
  refine e_bipush (x := 16) rfl (by decide) (xnm_no rfl) ?_
  refine e_iushr rfl (xnm_no rfl) ?_
  refine e_iadd rfl (xnm_no rfl) ?_
  replace h := xlt_b h
  refine e_istore_n rfl rfl (xnm_no rfl) ?_
  refine e_iload_n rfl rfl (xnm_no rfl) ?_
  refine e_bipush (x := 63) rfl (by decide) (xnm_no rfl) ?_
  refine e_iand rfl (xnm_no rfl) ?_
  cases h
  exact e_retI rfl rfl
set_option maxRecDepth 4000 in
theorem fX3_countLines_i (v0 : Nat) (m : xmm) {z : Int32 × xmm} (h : (bX3_countLines_4 v0 (0 : Int32) (0 : Int32) m) = some z) : fX3_countLines v0 m = some z := by
  refine xstI ?_
  show xT 29 1 0 [(0, .ref v0)] [] m (some (.int z.1), z.2)
  refine e_iconst (x := 0) rfl (by decide) (xnm_no rfl) ?_
  refine e_istore_n rfl rfl (xnm_no rfl) ?_
  refine e_iconst (x := 0) rfl (by decide) (xnm_no rfl) ?_
  refine e_istore_n rfl rfl rfl ?_
  exact xlfI h
set_option maxRecDepth 4000 in
theorem bX3_countLines_4_i (v0 : Nat) (v1 : Int32) (v2 : Int32) (m : xmm) {z : Int32 × xmm} (h : (if (8 : Int32) ≤ v2 then some ((v1 / (2 : Int32)), m) else xgd (!(Nat.beq v0 1999)) (xgd (xob v0 3) (xgr (xR0 v0 2) fun r3 => xgd (xia 1 r3 v2) ((fJ6_bitCount (m.1 r3 (v2).toNatClampNeg) m).bind fun (w6 : Int32 × xmm) => bX3_countLines_4 v0 (v1 + w6.1) (v2 + (1 : Int32)) w6.2)))) = some z) : bX3_countLines_4 v0 v1 v2 m = some z := by
  refine xstI ?_
  show xT 29 1 4 [(0, .ref v0), (1, .int v1), (2, .int v2)] [] m (some (.int z.1), z.2)
  refine e_iload_n rfl rfl (xnm_no rfl) ?_
  refine e_bipush (x := 8) rfl (by decide) (xnm_no rfl) ?_
  refine e_icmp_ge (t := 28) rfl rfl (xnm_no rfl) (xnm_no rfl) h (fun h => ?_) (fun h => ?_)
  · refine e_iload_n rfl rfl (xnm_no rfl) ?_
    refine e_iconst (x := 2) rfl (by decide) (xnm_no rfl) ?_
    refine e_idiv rfl (by decide) (xnm_no rfl) ?_
    cases h
    exact e_retI rfl rfl
  · refine e_iload_n rfl rfl (xnm_no rfl) ?_
    obtain ⟨g1, h⟩ := xgd_some h
    refine e_aload_n rfl rfl (xnb g1) (xnm_no rfl) ?_
    obtain ⟨g2, h⟩ := xgd_some h
    obtain ⟨r3, hr4, h⟩ := xgr_some h
    refine e_getR rfl rfl rfl g2 hr4 (xnm_no rfl) ?_
    refine e_iload_n rfl rfl (xnm_no rfl) ?_
    obtain ⟨g5, h⟩ := xgd_some h
    refine e_iald rfl g5 (xnm_no rfl) ?_
    obtain ⟨w6, hw7, h⟩ := xbd_some h
    refine e_cIS (hc := hw7) (rest := [.int _]) rfl rfl rfl rfl rfl rfl rfl rfl (xnm_no rfl) ?_
    refine e_iadd rfl (xnm_no rfl) ?_
    refine e_istore_n rfl rfl (xnm_no rfl) ?_
    refine e_iinc (y := 1) rfl rfl rfl (by decide) (xnm_no rfl) ?_
    refine e_goto (t := 4) rfl rfl rfl ?_
    exact xlfI h
set_option maxRecDepth 4000 in
theorem fX11_other_0_i (m : xmm) {z : Int32 × xmm} (h : ((fX11_beforeChange_0 m).bind fun (w1 : xmm) => (fX3_turnOver 10 w1).bind fun (w3 : xmm) => (fX3_countLines 10 w3).bind fun (w5 : Int32 × xmm) => some (w5.1, w5.2)) = some z) : fX11_other_0 m = some z := by
  refine xstI ?_
  show xT 120 3 0 [(0, .ref 0)] [] m (some (.int z.1), z.2)
  refine e_aload_n rfl rfl rfl (xnm_no rfl) ?_
  obtain ⟨w1, hw2, h⟩ := xbd_some h
  refine e_cVV (hc := hw2) (rest := []) rfl rfl rfl rfl rfl rfl rfl rfl (xnm_no rfl) ?_
  refine e_aload_n rfl rfl rfl (xnm_no rfl) ?_
  refine e_getR (r := 10) rfl rfl rfl rfl rfl (xnm_no rfl) ?_
  obtain ⟨w3, hw4, h⟩ := xbd_some h
  refine e_cVV (hc := hw4) (rest := []) rfl rfl rfl rfl rfl rfl rfl rfl (xnm_no rfl) ?_
  refine e_aload_n rfl rfl rfl (xnm_no rfl) ?_
  refine e_getR (r := 10) rfl rfl rfl rfl rfl (xnm_no rfl) ?_
  obtain ⟨w5, hw6, h⟩ := xbd_some h
  refine e_cIV (hc := hw6) (rest := []) rfl rfl rfl rfl rfl rfl rfl rfl (xnm_no rfl) ?_
  cases h
  exact e_retI rfl rfl
set_option maxRecDepth 4000 in
theorem fX12_laysOther_144_i (m : xmm) {z : xmm} (h : (bX12_laysOther_144_2 (0 : Int32) m) = some z) : fX12_laysOther_144 m = some z := by
  refine xstV ?_
  show xT 190 0 0 [(0, .ref 144)] [] m (none, z)
  refine e_iconst (x := 0) rfl (by decide) (xnm_no rfl) ?_
  refine e_istore_n rfl rfl rfl ?_
  exact xlfV h
set_option maxRecDepth 4000 in
theorem bX12_laysOther_144_2_i (v1 : Int32) (m : xmm) {z : xmm} (h : (if (8 : Int32) ≤ v1 then some m else if (m.1 144 17) ≤ v1 then xgd (xinb 9 v1) (xlt (xwi m 159 (v1).toNatClampNeg (0 : Int32)) fun (m2 : xmm) => bX12_laysOther_144_2 (v1 + (1 : Int32)) m2) else xgd (xinb 9 v1) (xlt (xwi m 159 (v1).toNatClampNeg (((((1 : Int32) <<< ((m.1 144 17) &&& 31)) - (1 : Int32)) &&& ((m.1 152 (v1).toNatClampNeg) ^^^ (-1 : Int32))) &&& (((1 : Int32) <<< (v1 &&& 31)) ^^^ (-1 : Int32)))) fun (m4 : xmm) => bX12_laysOther_144_2 (v1 + (1 : Int32)) m4)) = some z) : bX12_laysOther_144_2 v1 m = some z := by
  refine xstV ?_
  show xT 190 0 2 [(0, .ref 144), (1, .int v1)] [] m (none, z)
  refine e_iload_n rfl rfl (xnm_no rfl) ?_
  refine e_bipush (x := 8) rfl (by decide) (xnm_no rfl) ?_
  refine e_icmp_ge (t := 55) rfl rfl (xnm_no rfl) (xnm_no rfl) h (fun h => ?_) (fun h => ?_)
  · cases h
    exact e_retV rfl rfl
  · refine e_aload_n rfl rfl rfl (xnm_no rfl) ?_
    refine e_getR (r := 159) rfl rfl rfl rfl rfl (xnm_no rfl) ?_
    refine e_iload_n rfl rfl (xnm_no rfl) ?_
    refine e_iload_n rfl rfl (xnm_no rfl) ?_
    refine e_aload_n rfl rfl rfl (xnm_no rfl) ?_
    refine e_getI rfl rfl rfl rfl (xnm_no rfl) ?_
    refine e_icmp_ge (t := 47) rfl rfl (xnm_no rfl) (xnm_no rfl) h (fun h => ?_) (fun h => ?_)
    · refine e_iconst (x := 0) rfl (by decide) (xnm_no rfl) ?_
      obtain ⟨g1, h⟩ := xgd_some h
      refine e_iast rfl g1 (xnm_no rfl) ?_
      replace h := xlt_b h
      refine e_iinc (y := 1) rfl rfl rfl (by decide) (xnm_no rfl) ?_
      refine e_goto (t := 2) rfl rfl rfl ?_
      exact xlfV h
    · refine e_iconst (x := 1) rfl (by decide) (xnm_no rfl) ?_
      refine e_aload_n rfl rfl rfl (xnm_no rfl) ?_
      refine e_getI rfl rfl rfl rfl (xnm_no rfl) ?_
      refine e_ishl rfl (xnm_no rfl) ?_
      refine e_iconst (x := 1) rfl (by decide) (xnm_no rfl) ?_
      refine e_isub rfl (xnm_no rfl) ?_
      refine e_aload_n rfl rfl rfl (xnm_no rfl) ?_
      refine e_getR (r := 152) rfl rfl rfl rfl rfl (xnm_no rfl) ?_
      refine e_iload_n rfl rfl (xnm_no rfl) ?_
      obtain ⟨g3, h⟩ := xgd_some h
      refine e_iald rfl g3 (xnm_no rfl) ?_
      refine e_iconst (x := -1) rfl (by decide) (xnm_no rfl) ?_
      refine e_ixor rfl (xnm_no rfl) ?_
      refine e_iand rfl (xnm_no rfl) ?_
      refine e_iconst (x := 1) rfl (by decide) (xnm_no rfl) ?_
      refine e_iload_n rfl rfl (xnm_no rfl) ?_
      refine e_ishl rfl (xnm_no rfl) ?_
      refine e_iconst (x := -1) rfl (by decide) (xnm_no rfl) ?_
      refine e_ixor rfl (xnm_no rfl) ?_
      refine e_iand rfl (xnm_no rfl) ?_
      refine e_goto (t := 48) rfl rfl (xnm_no rfl) ?_
      refine e_iast rfl g3 (xnm_no rfl) ?_
      replace h := xlt_b h
      refine e_iinc (y := 1) rfl rfl rfl (by decide) (xnm_no rfl) ?_
      refine e_goto (t := 2) rfl rfl rfl ?_
      exact xlfV h
set_option maxRecDepth 4000 in
theorem fX12_has_i (v0 : Int32) (v1 : Int32) (m : xmm) {z : Int32 × xmm} (h : (if ((v0 >>> (v1 &&& 31)) &&& (1 : Int32)) = (1 : Int32) then some ((1 : Int32), m) else some ((0 : Int32), m)) = some z) : fX12_has v0 v1 m = some z := by
  refine xstI ?_
  show xT 181 0 0 [(0, .int v0), (1, .int v1)] [] m (some (.int z.1), z.2)
  refine e_iload_n rfl rfl (xnm_no rfl) ?_
  refine e_iload_n rfl rfl (xnm_no rfl) ?_
  refine e_ishr rfl (xnm_no rfl) ?_
  refine e_iconst (x := 1) rfl (by decide) (xnm_no rfl) ?_
  refine e_iand rfl (xnm_no rfl) ?_
  refine e_iconst (x := 1) rfl (by decide) (xnm_no rfl) ?_
  refine e_icmp_ne (t := 13) rfl rfl (xnm_no rfl) (xnm_no rfl) h (fun h => ?_) (fun h => ?_)
  · refine e_iconst (x := 0) rfl (by decide) (xnm_no rfl) ?_
    cases h
    exact e_retI rfl (by decide)
  · refine e_iconst (x := 1) rfl (by decide) (xnm_no rfl) ?_
    refine e_goto (t := 14) rfl rfl (xnm_no rfl) ?_
    cases h
    exact e_retI rfl (by decide)
set_option maxRecDepth 4000 in
theorem fX12_bitsOf_i (v0 : Int32) (m : xmm) {z : Int32 × xmm} (h : (bX12_bitsOf_4 v0 (0 : Int32) (0 : Int32) m) = some z) : fX12_bitsOf v0 m = some z := by
  refine xstI ?_
  show xT 182 1 0 [(0, .int v0)] [] m (some (.int z.1), z.2)
  refine e_iconst (x := 0) rfl (by decide) (xnm_no rfl) ?_
  refine e_istore_n rfl rfl (xnm_no rfl) ?_
  refine e_iconst (x := 0) rfl (by decide) (xnm_no rfl) ?_
  refine e_istore_n rfl rfl rfl ?_
  exact xlfI h
set_option maxRecDepth 4000 in
theorem bX12_bitsOf_4_i (v0 : Int32) (v1 : Int32) (v2 : Int32) (m : xmm) {z : Int32 × xmm} (h : (if (31 : Int32) ≤ v2 then some (v1, m) else (fX12_has v0 v2 m).bind fun (w1 : Int32 × xmm) => if w1.1 = 0 then bX12_bitsOf_4 v0 v1 (v2 + (1 : Int32)) w1.2 else bX12_bitsOf_4 v0 (v1 + (1 : Int32)) (v2 + (1 : Int32)) w1.2) = some z) : bX12_bitsOf_4 v0 v1 v2 m = some z := by
  refine xstI ?_
  show xT 182 1 4 [(0, .int v0), (1, .int v1), (2, .int v2)] [] m (some (.int z.1), z.2)
  refine e_iload_n rfl rfl (xnm_no rfl) ?_
  refine e_bipush (x := 31) rfl (by decide) (xnm_no rfl) ?_
  refine e_icmp_ge (t := 27) rfl rfl (xnm_no rfl) (xnm_no rfl) h (fun h => ?_) (fun h => ?_)
  · refine e_iload_n rfl rfl (xnm_no rfl) ?_
    cases h
    exact e_retI rfl rfl
  · refine e_iload_n rfl rfl (xnm_no rfl) ?_
    refine e_iload_n rfl rfl (xnm_no rfl) ?_
    obtain ⟨w1, hw2, h⟩ := xbd_some h
    refine e_cIS (hc := hw2) (rest := []) rfl rfl rfl rfl rfl rfl rfl rfl (xnm_no rfl) ?_
    refine e_if_eq (t := 21) rfl rfl (xnm_no rfl) (xnm_no rfl) h (fun h => ?_) (fun h => ?_)
    · refine e_iinc (y := 1) rfl rfl rfl (by decide) (xnm_no rfl) ?_
      refine e_goto (t := 4) rfl rfl rfl ?_
      exact xlfI h
    · refine e_iinc (y := 1) rfl rfl rfl (by decide) (xnm_no rfl) ?_
      refine e_iinc (y := 1) rfl rfl rfl (by decide) (xnm_no rfl) ?_
      refine e_goto (t := 4) rfl rfl rfl ?_
      exact xlfI h
set_option maxRecDepth 4000 in
theorem fX12_lineMany_144_i (m : xmm) {z : Int32 × xmm} (h : (bX12_lineMany_144_4 (0 : Int32) (0 : Int32) m) = some z) : fX12_lineMany_144 m = some z := by
  refine xstI ?_
  show xT 195 2 0 [(0, .ref 144)] [] m (some (.int z.1), z.2)
  refine e_iconst (x := 0) rfl (by decide) (xnm_no rfl) ?_
  refine e_istore_n rfl rfl (xnm_no rfl) ?_
  refine e_iconst (x := 0) rfl (by decide) (xnm_no rfl) ?_
  refine e_istore_n rfl rfl rfl ?_
  exact xlfI h
set_option maxRecDepth 4000 in
theorem bX12_lineMany_144_4_i (v1 : Int32) (v2 : Int32) (m : xmm) {z : Int32 × xmm} (h : (if (m.1 144 17) ≤ v2 then some ((v1 / (2 : Int32)), m) else xgd (xinb 9 v2) ((fX12_bitsOf (m.1 152 (v2).toNatClampNeg) m).bind fun (w2 : Int32 × xmm) => bX12_lineMany_144_4 (v1 + w2.1) (v2 + (1 : Int32)) w2.2)) = some z) : bX12_lineMany_144_4 v1 v2 m = some z := by
  refine xstI ?_
  show xT 195 2 4 [(0, .ref 144), (1, .int v1), (2, .int v2)] [] m (some (.int z.1), z.2)
  refine e_iload_n rfl rfl (xnm_no rfl) ?_
  refine e_aload_n rfl rfl rfl (xnm_no rfl) ?_
  refine e_getI rfl rfl rfl rfl (xnm_no rfl) ?_
  refine e_icmp_ge (t := 30) rfl rfl (xnm_no rfl) (xnm_no rfl) h (fun h => ?_) (fun h => ?_)
  · refine e_iload_n rfl rfl (xnm_no rfl) ?_
    refine e_iconst (x := 2) rfl (by decide) (xnm_no rfl) ?_
    refine e_idiv rfl (by decide) (xnm_no rfl) ?_
    cases h
    exact e_retI rfl rfl
  · refine e_iload_n rfl rfl (xnm_no rfl) ?_
    refine e_aload_n rfl rfl rfl (xnm_no rfl) ?_
    refine e_getR (r := 152) rfl rfl rfl rfl rfl (xnm_no rfl) ?_
    refine e_iload_n rfl rfl (xnm_no rfl) ?_
    obtain ⟨g1, h⟩ := xgd_some h
    refine e_iald rfl g1 (xnm_no rfl) ?_
    obtain ⟨w2, hw3, h⟩ := xbd_some h
    refine e_cIS (hc := hw3) (rest := [.int _]) rfl rfl rfl rfl rfl rfl rfl rfl (xnm_no rfl) ?_
    refine e_iadd rfl (xnm_no rfl) ?_
    refine e_istore_n rfl rfl (xnm_no rfl) ?_
    refine e_iinc (y := 1) rfl rfl rfl (by decide) (xnm_no rfl) ?_
    refine e_goto (t := 4) rfl rfl rfl ?_
    exact xlfI h
set_option maxRecDepth 4000 in
theorem fX12_other_144_i (m : xmm) {z : Int32 × xmm} (h : ((fX12_marks_144 m).bind fun (w1 : xmm) => (fX12_laysOther_144 w1).bind fun (w3 : xmm) => bX12_other_144_10 (0 : Int32) w3) = some z) : fX12_other_144 m = some z := by
  refine xstI ?_
  show xT 191 3 0 [(0, .ref 144)] [] m (some (.int z.1), z.2)
  refine e_aload_n rfl rfl rfl (xnm_no rfl) ?_
  obtain ⟨w1, hw2, h⟩ := xbd_some h
  refine e_cVV (hc := hw2) (rest := []) rfl rfl rfl rfl rfl rfl rfl rfl (xnm_no rfl) ?_
  refine e_aload_n rfl rfl rfl (xnm_no rfl) ?_
  obtain ⟨w3, hw4, h⟩ := xbd_some h
  refine e_cVV (hc := hw4) (rest := []) rfl rfl rfl rfl rfl rfl rfl rfl (xnm_no rfl) ?_
  refine e_iconst (x := 0) rfl (by decide) (xnm_no rfl) ?_
  refine e_istore_n rfl rfl rfl ?_
  exact xlfI h
set_option maxRecDepth 4000 in
theorem bX12_other_144_10_i (v1 : Int32) (m : xmm) {z : Int32 × xmm} (h : (if (8 : Int32) ≤ v1 then (fX12_lineMany_144 m).bind fun (w1 : Int32 × xmm) => some (w1.1, w1.2) else xgd (xinb 9 v1) (xlt (xwi m 152 (v1).toNatClampNeg (m.1 159 (v1).toNatClampNeg)) fun (m4 : xmm) => bX12_other_144_10 (v1 + (1 : Int32)) m4)) = some z) : bX12_other_144_10 v1 m = some z := by
  refine xstI ?_
  show xT 191 3 10 [(0, .ref 144), (1, .int v1)] [] m (some (.int z.1), z.2)
  refine e_iload_n rfl rfl (xnm_no rfl) ?_
  refine e_bipush (x := 8) rfl (by decide) (xnm_no rfl) ?_
  refine e_icmp_ge (t := 34) rfl rfl (xnm_no rfl) (xnm_no rfl) h (fun h => ?_) (fun h => ?_)
  · refine e_aload_n rfl rfl rfl (xnm_no rfl) ?_
    obtain ⟨w1, hw2, h⟩ := xbd_some h
    refine e_cIV (hc := hw2) (rest := []) rfl rfl rfl rfl rfl rfl rfl rfl (xnm_no rfl) ?_
    cases h
    exact e_retI rfl rfl
  · refine e_aload_n rfl rfl rfl (xnm_no rfl) ?_
    refine e_getR (r := 152) rfl rfl rfl rfl rfl (xnm_no rfl) ?_
    refine e_iload_n rfl rfl (xnm_no rfl) ?_
    refine e_aload_n rfl rfl rfl (xnm_no rfl) ?_
    refine e_getR (r := 159) rfl rfl rfl rfl rfl (xnm_no rfl) ?_
    refine e_iload_n rfl rfl (xnm_no rfl) ?_
    obtain ⟨g3, h⟩ := xgd_some h
    refine e_iald rfl g3 (xnm_no rfl) ?_
    refine e_iast rfl g3 (xnm_no rfl) ?_
    replace h := xlt_b h
    refine e_iinc (y := 1) rfl rfl rfl (by decide) (xnm_no rfl) ?_
    refine e_goto (t := 10) rfl rfl rfl ?_
    exact xlfI h
set_option maxRecDepth 4000 in
theorem fX3_hasLine_i (v0 : Nat) (v1 : Int32) (v2 : Int32) (m : xmm) {z : Int32 × xmm} (h : (xgd (!(Nat.beq v0 1999)) ((fX3_hasPair v0 v1 v2 m).bind fun (w2 : Int32 × xmm) => xgd (xob v0 3) (if w2.1 = 0 then some ((0 : Int32), w2.2) else xgr (xR0 v0 2) fun r5 => xgd (xia 1 r5 v1) ((fX11_contains (w2.2.1 r5 (v1).toNatClampNeg) v2 w2.2).bind fun (w8 : Int32 × xmm) => if w8.1 = 0 then some ((0 : Int32), w8.2) else some ((1 : Int32), w8.2))))) = some z) : fX3_hasLine v0 v1 v2 m = some z := by
  refine xstI ?_
  show xT 26 2 0 [(0, .ref v0), (1, .int v1), (2, .int v2)] [] m (some (.int z.1), z.2)
  obtain ⟨g1, h⟩ := xgd_some h
  refine e_aload_n rfl rfl (xnb g1) (xnm_no rfl) ?_
  refine e_iload_n rfl rfl (xnm_no rfl) ?_
  refine e_iload_n rfl rfl (xnm_no rfl) ?_
  obtain ⟨w2, hw3, h⟩ := xbd_some h
  obtain ⟨g4, h⟩ := xgd_some h
  refine e_cIV (hc := hw3) (rest := []) rfl rfl rfl rfl rfl (xorb g4) rfl rfl (xnm_no rfl) ?_
  refine e_if_eq (t := 26) rfl rfl (xnm_no rfl) (xnm_no rfl) h (fun h => ?_) (fun h => ?_)
  · refine e_iconst (x := 0) rfl (by decide) (xnm_no rfl) ?_
    cases h
    exact e_retI rfl (by decide)
  · refine e_aload_n rfl rfl (xnb g1) (xnm_no rfl) ?_
    obtain ⟨r5, hr6, h⟩ := xgr_some h
    refine e_getR rfl rfl rfl g4 hr6 (xnm_no rfl) ?_
    refine e_iload_n rfl rfl (xnm_no rfl) ?_
    obtain ⟨g7, h⟩ := xgd_some h
    refine e_iald rfl g7 (xnm_no rfl) ?_
    refine e_iload_n rfl rfl (xnm_no rfl) ?_
    obtain ⟨w8, hw9, h⟩ := xbd_some h
    refine e_cIS (hc := hw9) (rest := []) rfl rfl rfl rfl rfl rfl rfl rfl (xnm_no rfl) ?_
    refine e_if_eq (t := 26) rfl rfl (xnm_no rfl) (xnm_no rfl) h (fun h => ?_) (fun h => ?_)
    · refine e_iconst (x := 0) rfl (by decide) (xnm_no rfl) ?_
      cases h
      exact e_retI rfl (by decide)
    · refine e_iconst (x := 1) rfl (by decide) (xnm_no rfl) ?_
      refine e_goto (t := 27) rfl rfl (xnm_no rfl) ?_
      cases h
      exact e_retI rfl (by decide)
set_option maxRecDepth 4000 in
theorem fX3_swap_i (v0 : Nat) (v1 : Int32) (v2 : Int32) (m : xmm) {z : xmm} (h : (xgd (!(Nat.beq v0 1999)) ((fX3_hasPair v0 v1 v2 m).bind fun (w2 : Int32 × xmm) => xgd (xob v0 3) (if w2.1 = 0 then some w2.2 else bX3_swap_12 v0 v1 v2 (0 : Int32) w2.2))) = some z) : fX3_swap v0 v1 v2 m = some z := by
  refine xstV ?_
  show xT 36 3 0 [(0, .ref v0), (1, .int v1), (2, .int v2)] [] m (none, z)
  obtain ⟨g1, h⟩ := xgd_some h
  refine e_aload_n rfl rfl (xnb g1) (xnm_no rfl) ?_
  refine e_iload_n rfl rfl (xnm_no rfl) ?_
  refine e_iload_n rfl rfl (xnm_no rfl) ?_
  obtain ⟨w2, hw3, h⟩ := xbd_some h
  obtain ⟨g4, h⟩ := xgd_some h
  refine e_cIV (hc := hw3) (rest := []) rfl rfl rfl rfl rfl (xorb g4) rfl rfl (xnm_no rfl) ?_
  refine e_if_ne (t := 10) rfl rfl (xnm_no rfl) (xnm_no rfl) h (fun h => ?_) (fun h => ?_)
  · refine e_iconst (x := 0) rfl (by decide) (xnm_no rfl) ?_
    refine e_istore_n rfl rfl rfl ?_
    exact xlfV h
  · cases h
    exact e_retV rfl rfl
set_option maxRecDepth 4000 in
theorem bX3_swap_12_i (v0 : Nat) (v1 : Int32) (v2 : Int32) (v3 : Int32) (m : xmm) {z : xmm} (h : (xgd (!(Nat.beq v0 1999)) (xgd (xob v0 3) (if (m.1 v0 0) ≤ v3 then some m else if v3 = v1 then bX3_swap_12 v0 v1 v2 (v3 + (1 : Int32)) m else if v3 = v2 then bX3_swap_12 v0 v1 v2 (v3 + (1 : Int32)) m else (fX3_hasLine v0 v1 v3 m).bind fun (w3 : Int32 × xmm) => (fX3_hasLine v0 v2 v3 w3.2).bind fun (w5 : Int32 × xmm) => if w3.1 = w5.1 then bX3_swap_12 v0 v1 v2 (v3 + (1 : Int32)) w5.2 else (fX3_flip v0 v1 v3 w5.2).bind fun (w7 : xmm) => (fX3_flip v0 v2 v3 w7).bind fun (w9 : xmm) => bX3_swap_12 v0 v1 v2 (v3 + (1 : Int32)) w9))) = some z) : bX3_swap_12 v0 v1 v2 v3 m = some z := by
  refine xstV ?_
  show xT 36 3 12 [(0, .ref v0), (1, .int v1), (2, .int v2), (3, .int v3)] [] m (none, z)
  refine e_iload_n rfl rfl (xnm_no rfl) ?_
  obtain ⟨g1, h⟩ := xgd_some h
  refine e_aload_n rfl rfl (xnb g1) (xnm_no rfl) ?_
  obtain ⟨g2, h⟩ := xgd_some h
  refine e_getI rfl rfl rfl g2 (xnm_no rfl) ?_
  refine e_icmp_ge (t := 63) rfl rfl (xnm_no rfl) (xnm_no rfl) h (fun h => ?_) (fun h => ?_)
  · cases h
    exact e_retV rfl rfl
  · refine e_iload_n rfl rfl (xnm_no rfl) ?_
    refine e_iload_n rfl rfl (xnm_no rfl) ?_
    refine e_icmp_eq (t := 57) rfl rfl (xnm_no rfl) (xnm_no rfl) h (fun h => ?_) (fun h => ?_)
    · refine e_iinc (y := 1) rfl rfl rfl (by decide) (xnm_no rfl) ?_
      refine e_goto (t := 12) rfl rfl rfl ?_
      exact xlfV h
    · refine e_iload_n rfl rfl (xnm_no rfl) ?_
      refine e_iload_n rfl rfl (xnm_no rfl) ?_
      refine e_icmp_eq (t := 57) rfl rfl (xnm_no rfl) (xnm_no rfl) h (fun h => ?_) (fun h => ?_)
      · refine e_iinc (y := 1) rfl rfl rfl (by decide) (xnm_no rfl) ?_
        refine e_goto (t := 12) rfl rfl rfl ?_
        exact xlfV h
      · refine e_aload_n rfl rfl (xnb g1) (xnm_no rfl) ?_
        refine e_iload_n rfl rfl (xnm_no rfl) ?_
        refine e_iload_n rfl rfl (xnm_no rfl) ?_
        obtain ⟨w3, hw4, h⟩ := xbd_some h
        refine e_cIV (hc := hw4) (rest := []) rfl rfl rfl rfl rfl (xorb g2) rfl rfl (xnm_no rfl) ?_
        refine e_aload_n rfl rfl (xnb g1) (xnm_no rfl) ?_
        refine e_iload_n rfl rfl (xnm_no rfl) ?_
        refine e_iload_n rfl rfl (xnm_no rfl) ?_
        obtain ⟨w5, hw6, h⟩ := xbd_some h
        refine e_cIV (hc := hw6) (rest := [.int _]) rfl rfl rfl rfl rfl (xorb g2) rfl rfl (xnm_no rfl) ?_
        refine e_icmp_eq (t := 57) rfl rfl (xnm_no rfl) (xnm_no rfl) h (fun h => ?_) (fun h => ?_)
        · refine e_iinc (y := 1) rfl rfl rfl (by decide) (xnm_no rfl) ?_
          refine e_goto (t := 12) rfl rfl rfl ?_
          exact xlfV h
        · refine e_aload_n rfl rfl (xnb g1) (xnm_no rfl) ?_
          refine e_iload_n rfl rfl (xnm_no rfl) ?_
          refine e_iload_n rfl rfl (xnm_no rfl) ?_
          obtain ⟨w7, hw8, h⟩ := xbd_some h
          refine e_cVV (hc := hw8) (rest := []) rfl rfl rfl rfl rfl (xorb g2) rfl rfl (xnm_no rfl) ?_
          refine e_aload_n rfl rfl (xnb g1) (xnm_no rfl) ?_
          refine e_iload_n rfl rfl (xnm_no rfl) ?_
          refine e_iload_n rfl rfl (xnm_no rfl) ?_
          obtain ⟨w9, hw10, h⟩ := xbd_some h
          refine e_cVV (hc := hw10) (rest := []) rfl rfl rfl rfl rfl (xorb g2) rfl rfl (xnm_no rfl) ?_
          refine e_iinc (y := 1) rfl rfl rfl (by decide) (xnm_no rfl) ?_
          refine e_goto (t := 12) rfl rfl rfl ?_
          exact xlfV h
set_option maxRecDepth 4000 in
theorem fX11_exchange_0_i (v1 : Int32) (v2 : Int32) (m : xmm) {z : Int32 × xmm} (h : ((fX3_hasPair 10 v1 v2 m).bind fun (w1 : Int32 × xmm) => if w1.1 = 0 then some ((0 : Int32), w1.2) else (fX11_beforeChange_0 w1.2).bind fun (w3 : xmm) => (fX3_swap 10 v1 v2 w3).bind fun (w5 : xmm) => some ((1 : Int32), w5)) = some z) : fX11_exchange_0 v1 v2 m = some z := by
  refine xstI ?_
  show xT 121 4 0 [(0, .ref 0), (1, .int v1), (2, .int v2)] [] m (some (.int z.1), z.2)
  refine e_aload_n rfl rfl rfl (xnm_no rfl) ?_
  refine e_getR (r := 10) rfl rfl rfl rfl rfl (xnm_no rfl) ?_
  refine e_iload_n rfl rfl (xnm_no rfl) ?_
  refine e_iload_n rfl rfl (xnm_no rfl) ?_
  obtain ⟨w1, hw2, h⟩ := xbd_some h
  refine e_cIV (hc := hw2) (rest := []) rfl rfl rfl rfl rfl rfl rfl rfl (xnm_no rfl) ?_
  refine e_if_ne (t := 14) rfl rfl (xnm_no rfl) (xnm_no rfl) h (fun h => ?_) (fun h => ?_)
  · refine e_aload_n rfl rfl rfl (xnm_no rfl) ?_
    obtain ⟨w3, hw4, h⟩ := xbd_some h
    refine e_cVV (hc := hw4) (rest := []) rfl rfl rfl rfl rfl rfl rfl rfl (xnm_no rfl) ?_
    refine e_aload_n rfl rfl rfl (xnm_no rfl) ?_
    refine e_getR (r := 10) rfl rfl rfl rfl rfl (xnm_no rfl) ?_
    refine e_iload_n rfl rfl (xnm_no rfl) ?_
    refine e_iload_n rfl rfl (xnm_no rfl) ?_
    obtain ⟨w5, hw6, h⟩ := xbd_some h
    refine e_cVV (hc := hw6) (rest := []) rfl rfl rfl rfl rfl rfl rfl rfl (xnm_no rfl) ?_
    refine e_iconst (x := 1) rfl (by decide) (xnm_no rfl) ?_
    cases h
    exact e_retI rfl (by decide)
  · refine e_iconst (x := 0) rfl (by decide) (xnm_no rfl) ?_
    cases h
    exact e_retI rfl (by decide)
set_option maxRecDepth 4000 in
theorem fX12_exchange_144_i (v1 : Int32) (v2 : Int32) (m : xmm) {z : Int32 × xmm} (h : ((fX12_isPost_144 v1 m).bind fun (w1 : Int32 × xmm) => if w1.1 = 0 then some ((0 : Int32), w1.2) else (fX12_isPost_144 v2 w1.2).bind fun (w3 : Int32 × xmm) => if w3.1 = 0 then some ((0 : Int32), w3.2) else if v1 = v2 then some ((0 : Int32), w3.2) else (fX12_marks_144 w3.2).bind fun (w5 : xmm) => xlt (((1 : Int32) <<< (v1 &&& 31)) ||| ((1 : Int32) <<< (v2 &&& 31))) fun (x7 : Int32) => xgd (xinb 9 v1) (xgd (xinb 9 v2) (xlt (xwi w5 152 (v1).toNatClampNeg (w5.1 152 (v2).toNatClampNeg)) fun (m10 : xmm) => xlt (xwi m10 152 (v2).toNatClampNeg (w5.1 152 (v1).toNatClampNeg)) fun (m11 : xmm) => bX12_exchange_144_66 v1 v2 x7 (0 : Int32) m11))) = some z) : fX12_exchange_144 v1 v2 m = some z := by
  refine xstI ?_
  show xT 192 2 0 [(0, .ref 144), (1, .int v1), (2, .int v2)] [] m (some (.int z.1), z.2)
  refine e_aload_n rfl rfl rfl (xnm_no rfl) ?_
  refine e_iload_n rfl rfl (xnm_no rfl) ?_
  obtain ⟨w1, hw2, h⟩ := xbd_some h
  refine e_cIV (hc := hw2) (rest := []) rfl rfl rfl rfl rfl rfl rfl rfl (xnm_no rfl) ?_
  refine e_if_eq (t := 21) rfl rfl (xnm_no rfl) (xnm_no rfl) h (fun h => ?_) (fun h => ?_)
  · refine e_iconst (x := 0) rfl (by decide) (xnm_no rfl) ?_
    cases h
    exact e_retI rfl (by decide)
  · refine e_aload_n rfl rfl rfl (xnm_no rfl) ?_
    refine e_iload_n rfl rfl (xnm_no rfl) ?_
    obtain ⟨w3, hw4, h⟩ := xbd_some h
    refine e_cIV (hc := hw4) (rest := []) rfl rfl rfl rfl rfl rfl rfl rfl (xnm_no rfl) ?_
    refine e_if_eq (t := 21) rfl rfl (xnm_no rfl) (xnm_no rfl) h (fun h => ?_) (fun h => ?_)
    · refine e_iconst (x := 0) rfl (by decide) (xnm_no rfl) ?_
      cases h
      exact e_retI rfl (by decide)
    · refine e_iload_n rfl rfl (xnm_no rfl) ?_
      refine e_iload_n rfl rfl (xnm_no rfl) ?_
      refine e_icmp_ne (t := 23) rfl rfl (xnm_no rfl) (xnm_no rfl) h (fun h => ?_) (fun h => ?_)
      · refine e_aload_n rfl rfl rfl (xnm_no rfl) ?_
        obtain ⟨w5, hw6, h⟩ := xbd_some h
        refine e_cVV (hc := hw6) (rest := []) rfl rfl rfl rfl rfl rfl rfl rfl (xnm_no rfl) ?_
        refine e_iconst (x := 1) rfl (by decide) (xnm_no rfl) ?_
        refine e_iload_n rfl rfl (xnm_no rfl) ?_
        refine e_ishl rfl (xnm_no rfl) ?_
        refine e_iconst (x := 1) rfl (by decide) (xnm_no rfl) ?_
        refine e_iload_n rfl rfl (xnm_no rfl) ?_
        refine e_ishl rfl (xnm_no rfl) ?_
        refine e_ior rfl (xnm_no rfl) ?_
        replace h := xlt_b h
        refine e_istore_n rfl rfl (xnm_no rfl) ?_
        refine e_aload_n rfl rfl rfl (xnm_no rfl) ?_
        refine e_getR (r := 152) rfl rfl rfl rfl rfl (xnm_no rfl) ?_
        refine e_iload_n rfl rfl (xnm_no rfl) ?_
        obtain ⟨g8, h⟩ := xgd_some h
        refine e_iald rfl g8 (xnm_no rfl) ?_
        refine e_istore rfl rfl (xnm_no rfl) ?_
        refine e_aload_n rfl rfl rfl (xnm_no rfl) ?_
        refine e_getR (r := 152) rfl rfl rfl rfl rfl (xnm_no rfl) ?_
        refine e_iload_n rfl rfl (xnm_no rfl) ?_
        refine e_aload_n rfl rfl rfl (xnm_no rfl) ?_
        refine e_getR (r := 152) rfl rfl rfl rfl rfl (xnm_no rfl) ?_
        refine e_iload_n rfl rfl (xnm_no rfl) ?_
        obtain ⟨g9, h⟩ := xgd_some h
        refine e_iald rfl g9 (xnm_no rfl) ?_
        refine e_iast rfl g8 (xnm_no rfl) ?_
        replace h := xlt_b h
        refine e_aload_n rfl rfl rfl (xnm_no rfl) ?_
        refine e_getR (r := 152) rfl rfl rfl rfl rfl (xnm_no rfl) ?_
        refine e_iload_n rfl rfl (xnm_no rfl) ?_
        refine e_iload rfl rfl (xnm_no rfl) ?_
        refine e_iast rfl g9 (xnm_no rfl) ?_
        replace h := xlt_b h
        refine e_iconst (x := 0) rfl (by decide) (xnm_no rfl) ?_
        refine e_istore rfl rfl rfl ?_
        exact xlfI h
      · refine e_iconst (x := 0) rfl (by decide) (xnm_no rfl) ?_
        cases h
        exact e_retI rfl (by decide)
set_option maxRecDepth 4000 in
theorem bX12_exchange_144_66_i (v1 : Int32) (v2 : Int32) (v3 : Int32) (v5 : Int32) (m : xmm) {z : Int32 × xmm} (h : (if (m.1 144 17) ≤ v5 then some ((1 : Int32), m) else xgd (xinb 9 v5) ((fX12_has (m.1 152 (v5).toNatClampNeg) v1 m).bind fun (w2 : Int32 × xmm) => (fX12_has (w2.2.1 152 (v5).toNatClampNeg) v2 w2.2).bind fun (w4 : Int32 × xmm) => if w2.1 = w4.1 then bX12_exchange_144_66 v1 v2 v3 (v5 + (1 : Int32)) w4.2 else xlt (xwi w4.2 152 (v5).toNatClampNeg ((w4.2.1 152 (v5).toNatClampNeg) ^^^ v3)) fun (m6 : xmm) => bX12_exchange_144_66 v1 v2 v3 (v5 + (1 : Int32)) m6)) = some z) : bX12_exchange_144_66 v1 v2 v3 v5 m = some z := by
  refine xstI ?_
  show xT 192 2 66 [(0, .ref 144), (1, .int v1), (2, .int v2), (3, .int v3), (5, .int v5)] [] m (some (.int z.1), z.2)
  refine e_iload rfl rfl (xnm_no rfl) ?_
  refine e_aload_n rfl rfl rfl (xnm_no rfl) ?_
  refine e_getI rfl rfl rfl rfl (xnm_no rfl) ?_
  refine e_icmp_ge (t := 117) rfl rfl (xnm_no rfl) (xnm_no rfl) h (fun h => ?_) (fun h => ?_)
  · refine e_iconst (x := 1) rfl (by decide) (xnm_no rfl) ?_
    cases h
    exact e_retI rfl (by decide)
  · refine e_aload_n rfl rfl rfl (xnm_no rfl) ?_
    refine e_getR (r := 152) rfl rfl rfl rfl rfl (xnm_no rfl) ?_
    refine e_iload rfl rfl (xnm_no rfl) ?_
    obtain ⟨g1, h⟩ := xgd_some h
    refine e_iald rfl g1 (xnm_no rfl) ?_
    refine e_iload_n rfl rfl (xnm_no rfl) ?_
    obtain ⟨w2, hw3, h⟩ := xbd_some h
    refine e_cIS (hc := hw3) (rest := []) rfl rfl rfl rfl rfl rfl rfl rfl (xnm_no rfl) ?_
    refine e_aload_n rfl rfl rfl (xnm_no rfl) ?_
    refine e_getR (r := 152) rfl rfl rfl rfl rfl (xnm_no rfl) ?_
    refine e_iload rfl rfl (xnm_no rfl) ?_
    refine e_iald rfl g1 (xnm_no rfl) ?_
    refine e_iload_n rfl rfl (xnm_no rfl) ?_
    obtain ⟨w4, hw5, h⟩ := xbd_some h
    refine e_cIS (hc := hw5) (rest := [.int _]) rfl rfl rfl rfl rfl rfl rfl rfl (xnm_no rfl) ?_
    refine e_icmp_eq (t := 111) rfl rfl (xnm_no rfl) (xnm_no rfl) h (fun h => ?_) (fun h => ?_)
    · refine e_iinc (y := 1) rfl rfl rfl (by decide) (xnm_no rfl) ?_
      refine e_goto (t := 66) rfl rfl rfl ?_
      exact xlfI h
    · refine e_aload_n rfl rfl rfl (xnm_no rfl) ?_
      refine e_getR (r := 152) rfl rfl rfl rfl rfl (xnm_no rfl) ?_
      refine e_iload rfl rfl (xnm_no rfl) ?_
      refine e_dup2 rfl rfl rfl (xnm_no rfl) ?_
      refine e_iald rfl g1 (xnm_no rfl) ?_
      refine e_iload_n rfl rfl (xnm_no rfl) ?_
      refine e_ixor rfl (xnm_no rfl) ?_
      refine e_iast rfl g1 (xnm_no rfl) ?_
      replace h := xlt_b h
      refine e_iinc (y := 1) rfl rfl rfl (by decide) (xnm_no rfl) ?_
      refine e_goto (t := 66) rfl rfl rfl ?_
      exact xlfI h
set_option maxRecDepth 4000 in
theorem fX3_rowOf_i (v0 : Nat) (v1 : Int32) (m : xmm) {z : Int32 × xmm} (h : (xgd (!(Nat.beq v0 1999)) ((fX3_hasPost v0 v1 m).bind fun (w2 : Int32 × xmm) => xgd (xob v0 3) (if w2.1 = 0 then some ((0 : Int32), w2.2) else xgr (xR0 v0 2) fun r5 => xgd (xia 1 r5 v1) (some ((w2.2.1 r5 (v1).toNatClampNeg), w2.2))))) = some z) : fX3_rowOf v0 v1 m = some z := by
  refine xstI ?_
  show xT 27 1 0 [(0, .ref v0), (1, .int v1)] [] m (some (.int z.1), z.2)
  obtain ⟨g1, h⟩ := xgd_some h
  refine e_aload_n rfl rfl (xnb g1) (xnm_no rfl) ?_
  refine e_iload_n rfl rfl (xnm_no rfl) ?_
  obtain ⟨w2, hw3, h⟩ := xbd_some h
  obtain ⟨g4, h⟩ := xgd_some h
  refine e_cIV (hc := hw3) (rest := []) rfl rfl rfl rfl rfl (xorb g4) rfl rfl (xnm_no rfl) ?_
  refine e_if_eq (t := 17) rfl rfl (xnm_no rfl) (xnm_no rfl) h (fun h => ?_) (fun h => ?_)
  · refine e_iconst (x := 0) rfl (by decide) (xnm_no rfl) ?_
    cases h
    exact e_retI rfl rfl
  · refine e_aload_n rfl rfl (xnb g1) (xnm_no rfl) ?_
    obtain ⟨r5, hr6, h⟩ := xgr_some h
    refine e_getR rfl rfl rfl g4 hr6 (xnm_no rfl) ?_
    refine e_iload_n rfl rfl (xnm_no rfl) ?_
    obtain ⟨g7, h⟩ := xgd_some h
    refine e_iald rfl g7 (xnm_no rfl) ?_
    refine e_goto (t := 18) rfl rfl (xnm_no rfl) ?_
    cases h
    exact e_retI rfl rfl
set_option maxRecDepth 4000 in
theorem fX3_strip_i (v0 : Nat) (v1 : Int32) (m : xmm) {z : xmm} (h : (bX3_strip_2 v0 v1 (0 : Int32) m) = some z) : fX3_strip v0 v1 m = some z := by
  refine xstV ?_
  show xT 37 3 0 [(0, .ref v0), (1, .int v1)] [] m (none, z)
  refine e_iconst (x := 0) rfl (by decide) (xnm_no rfl) ?_
  refine e_istore_n rfl rfl rfl ?_
  exact xlfV h
set_option maxRecDepth 4000 in
theorem bX3_strip_2_i (v0 : Nat) (v1 : Int32) (v2 : Int32) (m : xmm) {z : xmm} (h : (xgd (!(Nat.beq v0 1999)) (xgd (xob v0 3) (if (m.1 v0 0) ≤ v2 then some m else (fX3_hasLine v0 v1 v2 m).bind fun (w3 : Int32 × xmm) => if w3.1 = 0 then bX3_strip_2 v0 v1 (v2 + (1 : Int32)) w3.2 else (fX3_flip v0 v1 v2 w3.2).bind fun (w5 : xmm) => bX3_strip_2 v0 v1 (v2 + (1 : Int32)) w5))) = some z) : bX3_strip_2 v0 v1 v2 m = some z := by
  refine xstV ?_
  show xT 37 3 2 [(0, .ref v0), (1, .int v1), (2, .int v2)] [] m (none, z)
  refine e_iload_n rfl rfl (xnm_no rfl) ?_
  obtain ⟨g1, h⟩ := xgd_some h
  refine e_aload_n rfl rfl (xnb g1) (xnm_no rfl) ?_
  obtain ⟨g2, h⟩ := xgd_some h
  refine e_getI rfl rfl rfl g2 (xnm_no rfl) ?_
  refine e_icmp_ge (t := 31) rfl rfl (xnm_no rfl) (xnm_no rfl) h (fun h => ?_) (fun h => ?_)
  · cases h
    exact e_retV rfl rfl
  · refine e_aload_n rfl rfl (xnb g1) (xnm_no rfl) ?_
    refine e_iload_n rfl rfl (xnm_no rfl) ?_
    refine e_iload_n rfl rfl (xnm_no rfl) ?_
    obtain ⟨w3, hw4, h⟩ := xbd_some h
    refine e_cIV (hc := hw4) (rest := []) rfl rfl rfl rfl rfl (xorb g2) rfl rfl (xnm_no rfl) ?_
    refine e_if_eq (t := 25) rfl rfl (xnm_no rfl) (xnm_no rfl) h (fun h => ?_) (fun h => ?_)
    · refine e_iinc (y := 1) rfl rfl rfl (by decide) (xnm_no rfl) ?_
      refine e_goto (t := 2) rfl rfl rfl ?_
      exact xlfV h
    · refine e_aload_n rfl rfl (xnb g1) (xnm_no rfl) ?_
      refine e_iload_n rfl rfl (xnm_no rfl) ?_
      refine e_iload_n rfl rfl (xnm_no rfl) ?_
      obtain ⟨w5, hw6, h⟩ := xbd_some h
      refine e_cVV (hc := hw6) (rest := []) rfl rfl rfl rfl rfl (xorb g2) rfl rfl (xnm_no rfl) ?_
      refine e_iinc (y := 1) rfl rfl rfl (by decide) (xnm_no rfl) ?_
      refine e_goto (t := 2) rfl rfl rfl ?_
      exact xlfV h
set_option maxRecDepth 4000 in
theorem fX11_bare_0_i (v1 : Int32) (m : xmm) {z : Int32 × xmm} (h : ((fX3_hasPost 10 v1 m).bind fun (w1 : Int32 × xmm) => if w1.1 = 0 then some ((-1 : Int32), w1.2) else (fX3_rowOf 10 v1 w1.2).bind fun (w3 : Int32 × xmm) => (fJ6_bitCount w3.1 w3.2).bind fun (w5 : Int32 × xmm) => if w5.1 ≤ 0 then some (w5.1, w5.2) else (fX11_beforeChange_0 w5.2).bind fun (w7 : xmm) => (fX3_strip 10 v1 w7).bind fun (w9 : xmm) => some (w5.1, w9)) = some z) : fX11_bare_0 v1 m = some z := by
  refine xstI ?_
  show xT 122 4 0 [(0, .ref 0), (1, .int v1)] [] m (some (.int z.1), z.2)
  refine e_aload_n rfl rfl rfl (xnm_no rfl) ?_
  refine e_getR (r := 10) rfl rfl rfl rfl rfl (xnm_no rfl) ?_
  refine e_iload_n rfl rfl (xnm_no rfl) ?_
  obtain ⟨w1, hw2, h⟩ := xbd_some h
  refine e_cIV (hc := hw2) (rest := []) rfl rfl rfl rfl rfl rfl rfl rfl (xnm_no rfl) ?_
  refine e_if_ne (t := 13) rfl rfl (xnm_no rfl) (xnm_no rfl) h (fun h => ?_) (fun h => ?_)
  · refine e_aload_n rfl rfl rfl (xnm_no rfl) ?_
    refine e_getR (r := 10) rfl rfl rfl rfl rfl (xnm_no rfl) ?_
    refine e_iload_n rfl rfl (xnm_no rfl) ?_
    obtain ⟨w3, hw4, h⟩ := xbd_some h
    refine e_cIV (hc := hw4) (rest := []) rfl rfl rfl rfl rfl rfl rfl rfl (xnm_no rfl) ?_
    obtain ⟨w5, hw6, h⟩ := xbd_some h
    refine e_cIS (hc := hw6) (rest := []) rfl rfl rfl rfl rfl rfl rfl rfl (xnm_no rfl) ?_
    refine e_istore_n rfl rfl (xnm_no rfl) ?_
    refine e_iload_n rfl rfl (xnm_no rfl) ?_
    refine e_if_le (t := 41) rfl rfl (xnm_no rfl) (xnm_no rfl) h (fun h => ?_) (fun h => ?_)
    · refine e_iload_n rfl rfl (xnm_no rfl) ?_
      cases h
      exact e_retI rfl rfl
    · refine e_aload_n rfl rfl rfl (xnm_no rfl) ?_
      obtain ⟨w7, hw8, h⟩ := xbd_some h
      refine e_cVV (hc := hw8) (rest := []) rfl rfl rfl rfl rfl rfl rfl rfl (xnm_no rfl) ?_
      refine e_aload_n rfl rfl rfl (xnm_no rfl) ?_
      refine e_getR (r := 10) rfl rfl rfl rfl rfl (xnm_no rfl) ?_
      refine e_iload_n rfl rfl (xnm_no rfl) ?_
      obtain ⟨w9, hw10, h⟩ := xbd_some h
      refine e_cVV (hc := hw10) (rest := []) rfl rfl rfl rfl rfl rfl rfl rfl (xnm_no rfl) ?_
      refine e_iload_n rfl rfl (xnm_no rfl) ?_
      cases h
      exact e_retI rfl rfl
  · refine e_iconst (x := -1) rfl (by decide) (xnm_no rfl) ?_
    cases h
    exact e_retI rfl rfl
set_option maxRecDepth 4000 in
theorem fX12_bare_144_i (v1 : Int32) (m : xmm) {z : Int32 × xmm} (h : ((fX12_isPost_144 v1 m).bind fun (w1 : Int32 × xmm) => if w1.1 = 0 then some ((-1 : Int32), w1.2) else xgd (xinb 9 v1) ((fX12_bitsOf (w1.2.1 152 (v1).toNatClampNeg) w1.2).bind fun (w4 : Int32 × xmm) => if w4.1 = 0 then some ((0 : Int32), w4.2) else (fX12_marks_144 w4.2).bind fun (w6 : xmm) => bX12_bare_144_32 v1 w4.1 (0 : Int32) w6)) = some z) : fX12_bare_144 v1 m = some z := by
  refine xstI ?_
  show xT 193 2 0 [(0, .ref 144), (1, .int v1)] [] m (some (.int z.1), z.2)
  refine e_aload_n rfl rfl rfl (xnm_no rfl) ?_
  refine e_iload_n rfl rfl (xnm_no rfl) ?_
  obtain ⟨w1, hw2, h⟩ := xbd_some h
  refine e_cIV (hc := hw2) (rest := []) rfl rfl rfl rfl rfl rfl rfl rfl (xnm_no rfl) ?_
  refine e_if_ne (t := 10) rfl rfl (xnm_no rfl) (xnm_no rfl) h (fun h => ?_) (fun h => ?_)
  · refine e_aload_n rfl rfl rfl (xnm_no rfl) ?_
    refine e_getR (r := 152) rfl rfl rfl rfl rfl (xnm_no rfl) ?_
    refine e_iload_n rfl rfl (xnm_no rfl) ?_
    obtain ⟨g3, h⟩ := xgd_some h
    refine e_iald rfl g3 (xnm_no rfl) ?_
    obtain ⟨w4, hw5, h⟩ := xbd_some h
    refine e_cIS (hc := hw5) (rest := []) rfl rfl rfl rfl rfl rfl rfl rfl (xnm_no rfl) ?_
    refine e_istore_n rfl rfl (xnm_no rfl) ?_
    refine e_iload_n rfl rfl (xnm_no rfl) ?_
    refine e_if_ne (t := 26) rfl rfl (xnm_no rfl) (xnm_no rfl) h (fun h => ?_) (fun h => ?_)
    · refine e_aload_n rfl rfl rfl (xnm_no rfl) ?_
      obtain ⟨w6, hw7, h⟩ := xbd_some h
      refine e_cVV (hc := hw7) (rest := []) rfl rfl rfl rfl rfl rfl rfl rfl (xnm_no rfl) ?_
      refine e_iconst (x := 0) rfl (by decide) (xnm_no rfl) ?_
      refine e_istore_n rfl rfl rfl ?_
      exact xlfI h
    · refine e_iconst (x := 0) rfl (by decide) (xnm_no rfl) ?_
      cases h
      exact e_retI rfl rfl
  · refine e_iconst (x := -1) rfl (by decide) (xnm_no rfl) ?_
    cases h
    exact e_retI rfl rfl
set_option maxRecDepth 4000 in
theorem bX12_bare_144_32_i (v1 : Int32) (v2 : Int32) (v3 : Int32) (m : xmm) {z : Int32 × xmm} (h : (if (m.1 144 17) ≤ v3 then xgd (xinb 9 v1) (xlt (xwi m 152 (v1).toNatClampNeg (0 : Int32)) fun (m2 : xmm) => some (v2, m2)) else xgd (xinb 9 v3) (xlt (xwi m 152 (v3).toNatClampNeg ((m.1 152 (v3).toNatClampNeg) &&& (((1 : Int32) <<< (v1 &&& 31)) ^^^ (-1 : Int32)))) fun (m4 : xmm) => bX12_bare_144_32 v1 v2 (v3 + (1 : Int32)) m4)) = some z) : bX12_bare_144_32 v1 v2 v3 m = some z := by
  refine xstI ?_
  show xT 193 2 32 [(0, .ref 144), (1, .int v1), (2, .int v2), (3, .int v3)] [] m (some (.int z.1), z.2)
  refine e_iload_n rfl rfl (xnm_no rfl) ?_
  refine e_aload_n rfl rfl rfl (xnm_no rfl) ?_
  refine e_getI rfl rfl rfl rfl (xnm_no rfl) ?_
  refine e_icmp_ge (t := 60) rfl rfl (xnm_no rfl) (xnm_no rfl) h (fun h => ?_) (fun h => ?_)
  · refine e_aload_n rfl rfl rfl (xnm_no rfl) ?_
    refine e_getR (r := 152) rfl rfl rfl rfl rfl (xnm_no rfl) ?_
    refine e_iload_n rfl rfl (xnm_no rfl) ?_
    refine e_iconst (x := 0) rfl (by decide) (xnm_no rfl) ?_
    obtain ⟨g1, h⟩ := xgd_some h
    refine e_iast rfl g1 (xnm_no rfl) ?_
    replace h := xlt_b h
    refine e_iload_n rfl rfl (xnm_no rfl) ?_
    cases h
    exact e_retI rfl rfl
  · refine e_aload_n rfl rfl rfl (xnm_no rfl) ?_
    refine e_getR (r := 152) rfl rfl rfl rfl rfl (xnm_no rfl) ?_
    refine e_iload_n rfl rfl (xnm_no rfl) ?_
    refine e_dup2 rfl rfl rfl (xnm_no rfl) ?_
    obtain ⟨g3, h⟩ := xgd_some h
    refine e_iald rfl g3 (xnm_no rfl) ?_
    refine e_iconst (x := 1) rfl (by decide) (xnm_no rfl) ?_
    refine e_iload_n rfl rfl (xnm_no rfl) ?_
    refine e_ishl rfl (xnm_no rfl) ?_
    refine e_iconst (x := -1) rfl (by decide) (xnm_no rfl) ?_
    refine e_ixor rfl (xnm_no rfl) ?_
    refine e_iand rfl (xnm_no rfl) ?_
    refine e_iast rfl g3 (xnm_no rfl) ?_
    replace h := xlt_b h
    refine e_iinc (y := 1) rfl rfl rfl (by decide) (xnm_no rfl) ?_
    refine e_goto (t := 32) rfl rfl rfl ?_
    exact xlfI h
set_option maxRecDepth 4000 in
theorem fX11_begin_0_i (m : xmm) {z : Int32 × xmm} (h : ((fX11_beforeChange_0 m).bind fun (w1 : xmm) => if (w1.1 10 1) = 0 then xlt (xwi w1 10 1 (1 : Int32)) fun (m5 : xmm) => xgd (xz01 (m5.1 10 1)) (some ((m5.1 10 1), m5)) else xlt (xwi w1 10 1 (0 : Int32)) fun (m3 : xmm) => xgd (xz01 (m3.1 10 1)) (some ((m3.1 10 1), m3))) = some z) : fX11_begin_0 m = some z := by
  refine xstI ?_
  show xT 123 3 0 [(0, .ref 0)] [] m (some (.int z.1), z.2)
  refine e_aload_n rfl rfl rfl (xnm_no rfl) ?_
  obtain ⟨w1, hw2, h⟩ := xbd_some h
  refine e_cVV (hc := hw2) (rest := []) rfl rfl rfl rfl rfl rfl rfl rfl (xnm_no rfl) ?_
  refine e_aload_n rfl rfl rfl (xnm_no rfl) ?_
  refine e_getR (r := 10) rfl rfl rfl rfl rfl (xnm_no rfl) ?_
  refine e_aload_n rfl rfl rfl (xnm_no rfl) ?_
  refine e_getR (r := 10) rfl rfl rfl rfl rfl (xnm_no rfl) ?_
  refine e_getI rfl rfl rfl rfl (xnm_no rfl) ?_
  refine e_if_ne (t := 22) rfl rfl (xnm_no rfl) (xnm_no rfl) h (fun h => ?_) (fun h => ?_)
  · refine e_iconst (x := 0) rfl (by decide) (xnm_no rfl) ?_
    refine e_putI rfl rfl (by decide) rfl (xnm_no rfl) ?_
    replace h := xlt_b h
    refine e_aload_n rfl rfl rfl (xnm_no rfl) ?_
    refine e_getR (r := 10) rfl rfl rfl rfl rfl (xnm_no rfl) ?_
    refine e_getI rfl rfl rfl rfl (xnm_no rfl) ?_
    obtain ⟨g4, h⟩ := xgd_some h
    cases h
    exact e_retI rfl g4
  · refine e_iconst (x := 1) rfl (by decide) (xnm_no rfl) ?_
    refine e_goto (t := 23) rfl rfl (xnm_no rfl) ?_
    refine e_putI rfl rfl (by decide) rfl (xnm_no rfl) ?_
    replace h := xlt_b h
    refine e_aload_n rfl rfl rfl (xnm_no rfl) ?_
    refine e_getR (r := 10) rfl rfl rfl rfl rfl (xnm_no rfl) ?_
    refine e_getI rfl rfl rfl rfl (xnm_no rfl) ?_
    obtain ⟨g6, h⟩ := xgd_some h
    cases h
    exact e_retI rfl g6
set_option maxRecDepth 4000 in
theorem fX12_begin_144_i (m : xmm) {z : Int32 × xmm} (h : ((fX12_marks_144 m).bind fun (w1 : xmm) => xlt (xwi w1 152 8 ((1 : Int32) - (w1.1 152 8))) fun (m3 : xmm) => if (m3.1 152 8) = (1 : Int32) then some ((1 : Int32), m3) else some ((0 : Int32), m3)) = some z) : fX12_begin_144 m = some z := by
  refine xstI ?_
  show xT 194 1 0 [(0, .ref 144)] [] m (some (.int z.1), z.2)
  refine e_aload_n rfl rfl rfl (xnm_no rfl) ?_
  obtain ⟨w1, hw2, h⟩ := xbd_some h
  refine e_cVV (hc := hw2) (rest := []) rfl rfl rfl rfl rfl rfl rfl rfl (xnm_no rfl) ?_
  refine e_aload_n rfl rfl rfl (xnm_no rfl) ?_
  refine e_getR (r := 152) rfl rfl rfl rfl rfl (xnm_no rfl) ?_
  refine e_bipush (x := 8) rfl (by decide) (xnm_no rfl) ?_
  refine e_iconst (x := 1) rfl (by decide) (xnm_no rfl) ?_
  refine e_aload_n rfl rfl rfl (xnm_no rfl) ?_
  refine e_getR (r := 152) rfl rfl rfl rfl rfl (xnm_no rfl) ?_
  refine e_bipush (x := 8) rfl (by decide) (xnm_no rfl) ?_
  refine e_iald rfl (by decide) (xnm_no rfl) ?_
  refine e_isub rfl (xnm_no rfl) ?_
  refine e_iast rfl (by decide) (xnm_no rfl) ?_
  replace h := xlt_b h
  refine e_aload_n rfl rfl rfl (xnm_no rfl) ?_
  refine e_getR (r := 152) rfl rfl rfl rfl rfl (xnm_no rfl) ?_
  refine e_bipush (x := 8) rfl (by decide) (xnm_no rfl) ?_
  refine e_iald rfl (by decide) (xnm_no rfl) ?_
  refine e_iconst (x := 1) rfl (by decide) (xnm_no rfl) ?_
  refine e_icmp_ne (t := 35) rfl rfl (xnm_no rfl) (xnm_no rfl) h (fun h => ?_) (fun h => ?_)
  · refine e_iconst (x := 0) rfl (by decide) (xnm_no rfl) ?_
    cases h
    exact e_retI rfl (by decide)
  · refine e_iconst (x := 1) rfl (by decide) (xnm_no rfl) ?_
    refine e_goto (t := 36) rfl rfl (xnm_no rfl) ?_
    cases h
    exact e_retI rfl (by decide)
set_option maxRecDepth 4000 in
theorem fX4_takeBack_14_10_i (m : xmm) {z : Int32 × xmm} (h : (if (m.1 14 2) = 0 then some ((0 : Int32), m) else xlt (xwi m 14 2 ((m.1 14 2) - (1 : Int32))) fun (m1 : xmm) => xlt (xwi m1 14 1 ((((m1.1 14 1) + (40 : Int32)) - (1 : Int32)) - (((m1.1 14 1) + (40 : Int32)) - (1 : Int32)) / (40 : Int32) * (40 : Int32))) fun (m2 : xmm) => xgd (xinb 40 (m2.1 14 1)) (xgr (xR0 15 ((m2.1 14 1)).toNatClampNeg) fun r4 => (fX3_copyFrom 10 r4 m2).bind fun (w6 : xmm) => some ((1 : Int32), w6))) = some z) : fX4_takeBack_14_10 m = some z := by
  refine xstI ?_
  show xT 40 1 0 [(0, .ref 14), (1, .ref 10)] [] m (some (.int z.1), z.2)
  refine e_aload_n rfl rfl rfl (xnm_no rfl) ?_
  refine e_getI rfl rfl rfl rfl (xnm_no rfl) ?_
  refine e_if_ne (t := 9) rfl rfl (xnm_no rfl) (xnm_no rfl) h (fun h => ?_) (fun h => ?_)
  · refine e_aload_n rfl rfl rfl (xnm_no rfl) ?_
    refine e_dup rfl rfl (xnm_no rfl) ?_
    refine e_getI rfl rfl rfl rfl (xnm_no rfl) ?_
    refine e_iconst (x := 1) rfl (by decide) (xnm_no rfl) ?_
    refine e_isub rfl (xnm_no rfl) ?_
    refine e_putI rfl rfl rfl rfl (xnm_no rfl) ?_
    replace h := xlt_b h
    refine e_aload_n rfl rfl rfl (xnm_no rfl) ?_
    refine e_aload_n rfl rfl rfl (xnm_no rfl) ?_
    refine e_getI rfl rfl rfl rfl (xnm_no rfl) ?_
    refine e_bipush (x := 40) rfl (by decide) (xnm_no rfl) ?_
    refine e_iadd rfl (xnm_no rfl) ?_
    refine e_iconst (x := 1) rfl (by decide) (xnm_no rfl) ?_
    refine e_isub rfl (xnm_no rfl) ?_
    refine e_bipush (x := 40) rfl (by decide) (xnm_no rfl) ?_
    refine e_irem rfl (by decide) (xnm_no rfl) ?_
    refine e_putI rfl rfl rfl rfl (xnm_no rfl) ?_
    replace h := xlt_b h
    refine e_aload_n rfl rfl rfl (xnm_no rfl) ?_
    refine e_aload_n rfl rfl rfl (xnm_no rfl) ?_
    refine e_getR (r := 15) rfl rfl rfl rfl rfl (xnm_no rfl) ?_
    refine e_aload_n rfl rfl rfl (xnm_no rfl) ?_
    refine e_getI rfl rfl rfl rfl (xnm_no rfl) ?_
    obtain ⟨g3, h⟩ := xgd_some h
    obtain ⟨r4, hr5, h⟩ := xgr_some h
    refine e_aald rfl g3 rfl hr5 (xnm_no rfl) ?_
    obtain ⟨w6, hw7, h⟩ := xbd_some h
    refine e_cVV (hc := hw7) (rest := []) rfl rfl rfl rfl rfl rfl rfl rfl (xnm_no rfl) ?_
    refine e_iconst (x := 1) rfl (by decide) (xnm_no rfl) ?_
    cases h
    exact e_retI rfl (by decide)
  · refine e_iconst (x := 0) rfl (by decide) (xnm_no rfl) ?_
    cases h
    exact e_retI rfl (by decide)
set_option maxRecDepth 4000 in
theorem fX11_undo_0_i (m : xmm) {z : Int32 × xmm} (h : (xlt (xwi m 0 6 (0 : Int32)) fun (m1 : xmm) => (fX4_takeBack_14_10 m1).bind fun (w2 : Int32 × xmm) => xgd (xz01 w2.1) (some (w2.1, w2.2))) = some z) : fX11_undo_0 m = some z := by
  refine xstI ?_
  show xT 124 2 0 [(0, .ref 0)] [] m (some (.int z.1), z.2)
  refine e_aload_n rfl rfl rfl (xnm_no rfl) ?_
  refine e_iconst (x := 0) rfl (by decide) (xnm_no rfl) ?_
  refine e_putI rfl rfl (by decide) rfl (xnm_no rfl) ?_
  replace h := xlt_b h
  refine e_aload_n rfl rfl rfl (xnm_no rfl) ?_
  refine e_getR (r := 14) rfl rfl rfl rfl rfl (xnm_no rfl) ?_
  refine e_aload_n rfl rfl rfl (xnm_no rfl) ?_
  refine e_getR (r := 10) rfl rfl rfl rfl rfl (xnm_no rfl) ?_
  obtain ⟨w2, hw3, h⟩ := xbd_some h
  refine e_cIV (hc := hw3) (rest := []) rfl rfl rfl rfl rfl rfl rfl rfl (xnm_no rfl) ?_
  obtain ⟨g4, h⟩ := xgd_some h
  cases h
  exact e_retI rfl g4
