set_option maxRecDepth 4000 in
theorem fX12_colours_144_i (v1 : Int32) (m : xmm) {z : Int32 × xmm} (h : ((fX12_in v1 (0 : Int32) (9 : Int32) m).bind fun (w1 : Int32 × xmm) => if w1.1 = 0 then some ((-1 : Int32), w1.2) else bX12_colours_144_14 v1 (0 : Int32) w1.2) = some z) : fX12_colours_144 v1 m = some z := by
  refine xstI ?_
  show xT 238 2 0 [(0, .ref 144), (1, .int v1)] [] m (some (.int z.1), z.2)
  refine e_iload_n rfl rfl (xnm_no rfl) ?_
  refine e_iconst (x := 0) rfl (by decide) (xnm_no rfl) ?_
  refine e_bipush (x := 9) rfl (by decide) (xnm_no rfl) ?_
  obtain ⟨w1, hw2, h⟩ := xbd_some h
  refine e_cIS (hc := hw2) (rest := []) rfl rfl rfl rfl rfl rfl rfl rfl (xnm_no rfl) ?_
  refine e_if_ne (t := 12) rfl rfl (xnm_no rfl) (xnm_no rfl) h (fun h => ?_) (fun h => ?_)
  · refine e_iconst (x := 0) rfl (by decide) (xnm_no rfl) ?_
    refine e_istore_n rfl rfl rfl ?_
    exact xlfI h
  · refine e_iconst (x := -1) rfl (by decide) (xnm_no rfl) ?_
    cases h
    exact e_retI rfl rfl
set_option maxRecDepth 4000 in
theorem bX12_colours_144_14_i (v1 : Int32) (v2 : Int32) (m : xmm) {z : Int32 × xmm} (h : (if v1 < v2 then xgd (xinb 2560 ((((256 : Int32) * v1) + ((1 : Int32) <<< ((m.1 144 17) &&& 31))) - (1 : Int32))) (some ((m.1 178 (((((256 : Int32) * v1) + ((1 : Int32) <<< ((m.1 144 17) &&& 31))) - (1 : Int32))).toNatClampNeg), m)) else bX12_colours_144_21 v1 v2 (0 : Int32) m) = some z) : bX12_colours_144_14 v1 v2 m = some z := by
  refine xstI ?_
  show xT 238 2 14 [(0, .ref 144), (1, .int v1), (2, .int v2)] [] m (some (.int z.1), z.2)
  refine e_iload_n rfl rfl (xnm_no rfl) ?_
  refine e_iload_n rfl rfl (xnm_no rfl) ?_
  refine e_icmp_gt (t := 165) rfl rfl (xnm_no rfl) (xnm_no rfl) h (fun h => ?_) (fun h => ?_)
  · refine e_aload_n rfl rfl rfl (xnm_no rfl) ?_
    refine e_getR (r := 178) rfl rfl rfl rfl rfl (xnm_no rfl) ?_
    refine e_sipush (x := 256) rfl (by decide) (xnm_no rfl) ?_
    refine e_iload_n rfl rfl (xnm_no rfl) ?_
    refine e_imul rfl (xnm_no rfl) ?_
    refine e_iconst (x := 1) rfl (by decide) (xnm_no rfl) ?_
    refine e_aload_n rfl rfl rfl (xnm_no rfl) ?_
    refine e_getI rfl rfl rfl rfl (xnm_no rfl) ?_
    refine e_ishl rfl (xnm_no rfl) ?_
    refine e_iadd rfl (xnm_no rfl) ?_
    refine e_iconst (x := 1) rfl (by decide) (xnm_no rfl) ?_
    refine e_isub rfl (xnm_no rfl) ?_
    obtain ⟨g1, h⟩ := xgd_some h
    refine e_iald rfl g1 (xnm_no rfl) ?_
    cases h
    exact e_retI rfl rfl
  · refine e_iconst (x := 0) rfl (by decide) (xnm_no rfl) ?_
    refine e_istore_n rfl rfl rfl ?_
    exact xlfI h
set_option maxRecDepth 4000 in
theorem bX12_colours_144_21_i (v1 : Int32) (v2 : Int32) (v3 : Int32) (m : xmm) {z : Int32 × xmm} (h : (if ((1 : Int32) <<< ((m.1 144 17) &&& 31)) ≤ v3 then bX12_colours_144_14 v1 (v2 + (1 : Int32)) m else if v3 = 0 then xgd (xinb 2560 (((256 : Int32) * v2) + v3)) (xlt (xwi m 178 ((((256 : Int32) * v2) + v3)).toNatClampNeg (1 : Int32)) fun (m4 : xmm) => bX12_colours_144_55 v1 v2 v3 v3 m4) else xgd (xinb 2560 (((256 : Int32) * v2) + v3)) (xlt (xwi m 178 ((((256 : Int32) * v2) + v3)).toNatClampNeg (0 : Int32)) fun (m2 : xmm) => bX12_colours_144_55 v1 v2 v3 v3 m2)) = some z) : bX12_colours_144_21 v1 v2 v3 m = some z := by
  refine xstI ?_
  show xT 238 2 21 [(0, .ref 144), (1, .int v1), (2, .int v2), (3, .int v3)] [] m (some (.int z.1), z.2)
  refine e_iload_n rfl rfl (xnm_no rfl) ?_
  refine e_iconst (x := 1) rfl (by decide) (xnm_no rfl) ?_
  refine e_aload_n rfl rfl rfl (xnm_no rfl) ?_
  refine e_getI rfl rfl rfl rfl (xnm_no rfl) ?_
  refine e_ishl rfl (xnm_no rfl) ?_
  refine e_icmp_ge (t := 159) rfl rfl (xnm_no rfl) (xnm_no rfl) h (fun h => ?_) (fun h => ?_)
  · refine e_iinc (y := 1) rfl rfl rfl (by decide) (xnm_no rfl) ?_
    refine e_goto (t := 14) rfl rfl rfl ?_
    exact xlfI h
  · refine e_aload_n rfl rfl rfl (xnm_no rfl) ?_
    refine e_getR (r := 178) rfl rfl rfl rfl rfl (xnm_no rfl) ?_
    refine e_sipush (x := 256) rfl (by decide) (xnm_no rfl) ?_
    refine e_iload_n rfl rfl (xnm_no rfl) ?_
    refine e_imul rfl (xnm_no rfl) ?_
    refine e_iload_n rfl rfl (xnm_no rfl) ?_
    refine e_iadd rfl (xnm_no rfl) ?_
    refine e_iload_n rfl rfl (xnm_no rfl) ?_
    refine e_if_ne (t := 50) rfl rfl (xnm_no rfl) (xnm_no rfl) h (fun h => ?_) (fun h => ?_)
    · refine e_iconst (x := 0) rfl (by decide) (xnm_no rfl) ?_
      obtain ⟨g1, h⟩ := xgd_some h
      refine e_iast rfl g1 (xnm_no rfl) ?_
      replace h := xlt_b h
      refine e_iload_n rfl rfl (xnm_no rfl) ?_
      refine e_istore rfl rfl rfl ?_
      exact xlfI h
    · refine e_iconst (x := 1) rfl (by decide) (xnm_no rfl) ?_
      refine e_goto (t := 51) rfl rfl (xnm_no rfl) ?_
      obtain ⟨g3, h⟩ := xgd_some h
      refine e_iast rfl g3 (xnm_no rfl) ?_
      replace h := xlt_b h
      refine e_iload_n rfl rfl (xnm_no rfl) ?_
      refine e_istore rfl rfl rfl ?_
      exact xlfI h
set_option maxRecDepth 4000 in
theorem bX12_colours_144_55_i (v1 : Int32) (v2 : Int32) (v3 : Int32) (v4 : Int32) (m : xmm) {z : Int32 × xmm} (h : (if v4 ≤ 0 then bX12_colours_144_116 v1 v2 v3 m else if v2 ≤ 0 then bX12_colours_144_116 v1 v2 v3 m else (fX12_isApart_144 v4 m).bind fun (w1 : Int32 × xmm) => if w1.1 = 0 then bX12_colours_144_105 v1 v2 v3 v4 w1.2 else xgd (xinb 2560 (((256 : Int32) * v2) + v3)) (xgd (xinb 2560 (((256 : Int32) * (v2 - (1 : Int32))) + (v3 ^^^ v4))) (xlt (xwi w1.2 178 ((((256 : Int32) * v2) + v3)).toNatClampNeg ((w1.2.1 178 ((((256 : Int32) * v2) + v3)).toNatClampNeg) + (w1.2.1 178 ((((256 : Int32) * (v2 - (1 : Int32))) + (v3 ^^^ v4))).toNatClampNeg))) fun (m5 : xmm) => bX12_colours_144_105 v1 v2 v3 v4 m5))) = some z) : bX12_colours_144_55 v1 v2 v3 v4 m = some z := by
  refine xstI ?_
  show xT 238 2 55 [(0, .ref 144), (1, .int v1), (2, .int v2), (3, .int v3), (4, .int v4)] [] m (some (.int z.1), z.2)
  refine e_iload rfl rfl (xnm_no rfl) ?_
  refine e_if_le (t := 116) rfl rfl rfl (xnm_no rfl) h (fun h => ?_) (fun h => ?_)
  · exact xlfI h
  · refine e_iload_n rfl rfl (xnm_no rfl) ?_
    refine e_if_le (t := 116) rfl rfl rfl (xnm_no rfl) h (fun h => ?_) (fun h => ?_)
    · exact xlfI h
    · refine e_aload_n rfl rfl rfl (xnm_no rfl) ?_
      refine e_iload rfl rfl (xnm_no rfl) ?_
      obtain ⟨w1, hw2, h⟩ := xbd_some h
      refine e_cIV (hc := hw2) (rest := []) rfl rfl rfl rfl rfl rfl rfl rfl (xnm_no rfl) ?_
      refine e_if_eq (t := 105) rfl rfl rfl (xnm_no rfl) h (fun h => ?_) (fun h => ?_)
      · exact xlfI h
      · refine e_aload_n rfl rfl rfl (xnm_no rfl) ?_
        refine e_getR (r := 178) rfl rfl rfl rfl rfl (xnm_no rfl) ?_
        refine e_sipush (x := 256) rfl (by decide) (xnm_no rfl) ?_
        refine e_iload_n rfl rfl (xnm_no rfl) ?_
        refine e_imul rfl (xnm_no rfl) ?_
        refine e_iload_n rfl rfl (xnm_no rfl) ?_
        refine e_iadd rfl (xnm_no rfl) ?_
        refine e_dup2 rfl rfl rfl (xnm_no rfl) ?_
        obtain ⟨g3, h⟩ := xgd_some h
        refine e_iald rfl g3 (xnm_no rfl) ?_
        refine e_aload_n rfl rfl rfl (xnm_no rfl) ?_
        refine e_getR (r := 178) rfl rfl rfl rfl rfl (xnm_no rfl) ?_
        refine e_sipush (x := 256) rfl (by decide) (xnm_no rfl) ?_
        refine e_iload_n rfl rfl (xnm_no rfl) ?_
        refine e_iconst (x := 1) rfl (by decide) (xnm_no rfl) ?_
        refine e_isub rfl (xnm_no rfl) ?_
        refine e_imul rfl (xnm_no rfl) ?_
        refine e_iload_n rfl rfl (xnm_no rfl) ?_
        refine e_iload rfl rfl (xnm_no rfl) ?_
        refine e_ixor rfl (xnm_no rfl) ?_
        refine e_iadd rfl (xnm_no rfl) ?_
        obtain ⟨g4, h⟩ := xgd_some h
        refine e_iald rfl g4 (xnm_no rfl) ?_
        refine e_iadd rfl (xnm_no rfl) ?_
        refine e_iast rfl g3 rfl ?_
        replace h := xlt_b h
        exact xlfI h
set_option maxRecDepth 4000 in
theorem bX12_colours_144_116_i (v1 : Int32) (v2 : Int32) (v3 : Int32) (m : xmm) {z : Int32 × xmm} (h : (if v2 ≤ 0 then bX12_colours_144_21 v1 v2 (v3 + (1 : Int32)) m else if v3 ≤ 0 then bX12_colours_144_21 v1 v2 (v3 + (1 : Int32)) m else xgd (xinb 2560 (((256 : Int32) * v2) + v3)) (xgd (xinb 2560 (((256 : Int32) * (v2 - (1 : Int32))) + v3)) (xlt (xwi m 178 ((((256 : Int32) * v2) + v3)).toNatClampNeg ((m.1 178 ((((256 : Int32) * v2) + v3)).toNatClampNeg) + (m.1 178 ((((256 : Int32) * (v2 - (1 : Int32))) + v3)).toNatClampNeg))) fun (m3 : xmm) => bX12_colours_144_21 v1 v2 (v3 + (1 : Int32)) m3))) = some z) : bX12_colours_144_116 v1 v2 v3 m = some z := by
  refine xstI ?_
  show xT 238 2 116 [(0, .ref 144), (1, .int v1), (2, .int v2), (3, .int v3)] [] m (some (.int z.1), z.2)
  refine e_iload_n rfl rfl (xnm_no rfl) ?_
  refine e_if_le (t := 153) rfl rfl (xnm_no rfl) (xnm_no rfl) h (fun h => ?_) (fun h => ?_)
  · refine e_iinc (y := 1) rfl rfl rfl (by decide) (xnm_no rfl) ?_
    refine e_goto (t := 21) rfl rfl rfl ?_
    exact xlfI h
  · refine e_iload_n rfl rfl (xnm_no rfl) ?_
    refine e_if_le (t := 153) rfl rfl (xnm_no rfl) (xnm_no rfl) h (fun h => ?_) (fun h => ?_)
    · refine e_iinc (y := 1) rfl rfl rfl (by decide) (xnm_no rfl) ?_
      refine e_goto (t := 21) rfl rfl rfl ?_
      exact xlfI h
    · refine e_aload_n rfl rfl rfl (xnm_no rfl) ?_
      refine e_getR (r := 178) rfl rfl rfl rfl rfl (xnm_no rfl) ?_
      refine e_sipush (x := 256) rfl (by decide) (xnm_no rfl) ?_
      refine e_iload_n rfl rfl (xnm_no rfl) ?_
      refine e_imul rfl (xnm_no rfl) ?_
      refine e_iload_n rfl rfl (xnm_no rfl) ?_
      refine e_iadd rfl (xnm_no rfl) ?_
      refine e_dup2 rfl rfl rfl (xnm_no rfl) ?_
      obtain ⟨g1, h⟩ := xgd_some h
      refine e_iald rfl g1 (xnm_no rfl) ?_
      refine e_aload_n rfl rfl rfl (xnm_no rfl) ?_
      refine e_getR (r := 178) rfl rfl rfl rfl rfl (xnm_no rfl) ?_
      refine e_sipush (x := 256) rfl (by decide) (xnm_no rfl) ?_
      refine e_iload_n rfl rfl (xnm_no rfl) ?_
      refine e_iconst (x := 1) rfl (by decide) (xnm_no rfl) ?_
      refine e_isub rfl (xnm_no rfl) ?_
      refine e_imul rfl (xnm_no rfl) ?_
      refine e_iload_n rfl rfl (xnm_no rfl) ?_
      refine e_iadd rfl (xnm_no rfl) ?_
      obtain ⟨g2, h⟩ := xgd_some h
      refine e_iald rfl g2 (xnm_no rfl) ?_
      refine e_iadd rfl (xnm_no rfl) ?_
      refine e_iast rfl g1 (xnm_no rfl) ?_
      replace h := xlt_b h
      refine e_iinc (y := 1) rfl rfl rfl (by decide) (xnm_no rfl) ?_
      refine e_goto (t := 21) rfl rfl rfl ?_
      exact xlfI h
set_option maxRecDepth 4000 in
theorem bX12_colours_144_105_i (v1 : Int32) (v2 : Int32) (v3 : Int32) (v4 : Int32) (m : xmm) {z : Int32 × xmm} (h : (bX12_colours_144_55 v1 v2 v3 ((v4 - (1 : Int32)) &&& v3) m) = some z) : bX12_colours_144_105 v1 v2 v3 v4 m = some z := by
  refine xstI ?_
  show xT 238 2 105 [(0, .ref 144), (1, .int v1), (2, .int v2), (3, .int v3), (4, .int v4)] [] m (some (.int z.1), z.2)
  refine e_iload rfl rfl (xnm_no rfl) ?_
  refine e_iconst (x := 1) rfl (by decide) (xnm_no rfl) ?_
  refine e_isub rfl (xnm_no rfl) ?_
  refine e_iload_n rfl rfl (xnm_no rfl) ?_
  refine e_iand rfl (xnm_no rfl) ?_
  refine e_istore rfl rfl (xnm_no rfl) ?_
  refine e_goto (t := 55) rfl rfl rfl ?_
  exact xlfI h
set_option maxRecDepth 4000 in
theorem fX9_isRound_i (v0 : Nat) (v1 : Int32) (m : xmm) {z : Int32 × xmm} (h : ((fJ6_bitCount v1 m).bind fun (w1 : Int32 × xmm) => if (4 : Int32) ≤ w1.1 then bX9_isRound_12 v0 v1 (0 : Int32) w1.2 else some ((0 : Int32), w1.2)) = some z) : fX9_isRound v0 v1 m = some z := by
  refine xstI ?_
  show xT 100 4 0 [(0, .ref v0), (1, .int v1)] [] m (some (.int z.1), z.2)
  refine e_iload_n rfl rfl (xnm_no rfl) ?_
  obtain ⟨w1, hw2, h⟩ := xbd_some h
  refine e_cIS (hc := hw2) (rest := []) rfl rfl rfl rfl rfl rfl rfl rfl (xnm_no rfl) ?_
  refine e_iconst (x := 4) rfl (by decide) (xnm_no rfl) ?_
  refine e_icmp_ge (t := 10) rfl rfl (xnm_no rfl) (xnm_no rfl) h (fun h => ?_) (fun h => ?_)
  · refine e_iconst (x := 0) rfl (by decide) (xnm_no rfl) ?_
    refine e_istore_n rfl rfl rfl ?_
    exact xlfI h
  · refine e_iconst (x := 0) rfl (by decide) (xnm_no rfl) ?_
    cases h
    exact e_retI rfl (by decide)
set_option maxRecDepth 4000 in
theorem bX9_isRound_12_i (v0 : Nat) (v1 : Int32) (v2 : Int32) (m : xmm) {z : Int32 × xmm} (h : (if (8 : Int32) ≤ v2 then xgd (!(Nat.beq v0 1999)) ((fX9_parts v0 v1 m).bind fun (w2 : Int32 × xmm) => if w2.1 = (1 : Int32) then some ((1 : Int32), w2.2) else some ((0 : Int32), w2.2)) else (fX11_contains v1 v2 m).bind fun (w4 : Int32 × xmm) => if w4.1 = 0 then bX9_isRound_12 v0 v1 (v2 + (1 : Int32)) w4.2 else xgd (!(Nat.beq v0 1999)) (xgd (xia 1 v0 v2) ((fJ6_bitCount ((w4.2.1 v0 (v2).toNatClampNeg) &&& v1) w4.2).bind fun (w8 : Int32 × xmm) => if w8.1 = (2 : Int32) then bX9_isRound_12 v0 v1 (v2 + (1 : Int32)) w8.2 else some ((0 : Int32), w8.2)))) = some z) : bX9_isRound_12 v0 v1 v2 m = some z := by
  refine xstI ?_
  show xT 100 4 12 [(0, .ref v0), (1, .int v1), (2, .int v2)] [] m (some (.int z.1), z.2)
  refine e_iload_n rfl rfl (xnm_no rfl) ?_
  refine e_bipush (x := 8) rfl (by decide) (xnm_no rfl) ?_
  refine e_icmp_ge (t := 46) rfl rfl (xnm_no rfl) (xnm_no rfl) h (fun h => ?_) (fun h => ?_)
  · obtain ⟨g1, h⟩ := xgd_some h
    refine e_aload_n rfl rfl (xnb g1) (xnm_no rfl) ?_
    refine e_iload_n rfl rfl (xnm_no rfl) ?_
    obtain ⟨w2, hw3, h⟩ := xbd_some h
    refine e_cIS (hc := hw3) (rest := []) rfl rfl rfl rfl rfl rfl rfl rfl (xnm_no rfl) ?_
    refine e_iconst (x := 1) rfl (by decide) (xnm_no rfl) ?_
    refine e_icmp_ne (t := 59) rfl rfl (xnm_no rfl) (xnm_no rfl) h (fun h => ?_) (fun h => ?_)
    · refine e_iconst (x := 0) rfl (by decide) (xnm_no rfl) ?_
      cases h
      exact e_retI rfl (by decide)
    · refine e_iconst (x := 1) rfl (by decide) (xnm_no rfl) ?_
      refine e_goto (t := 60) rfl rfl (xnm_no rfl) ?_
      cases h
      exact e_retI rfl (by decide)
  · refine e_iload_n rfl rfl (xnm_no rfl) ?_
    refine e_iload_n rfl rfl (xnm_no rfl) ?_
    obtain ⟨w4, hw5, h⟩ := xbd_some h
    refine e_cIS (hc := hw5) (rest := []) rfl rfl rfl rfl rfl rfl rfl rfl (xnm_no rfl) ?_
    refine e_if_eq (t := 40) rfl rfl (xnm_no rfl) (xnm_no rfl) h (fun h => ?_) (fun h => ?_)
    · refine e_iinc (y := 1) rfl rfl rfl (by decide) (xnm_no rfl) ?_
      refine e_goto (t := 12) rfl rfl rfl ?_
      exact xlfI h
    · obtain ⟨g6, h⟩ := xgd_some h
      refine e_aload_n rfl rfl (xnb g6) (xnm_no rfl) ?_
      refine e_iload_n rfl rfl (xnm_no rfl) ?_
      obtain ⟨g7, h⟩ := xgd_some h
      refine e_iald rfl g7 (xnm_no rfl) ?_
      refine e_iload_n rfl rfl (xnm_no rfl) ?_
      refine e_iand rfl (xnm_no rfl) ?_
      obtain ⟨w8, hw9, h⟩ := xbd_some h
      refine e_cIS (hc := hw9) (rest := []) rfl rfl rfl rfl rfl rfl rfl rfl (xnm_no rfl) ?_
      refine e_iconst (x := 2) rfl (by decide) (xnm_no rfl) ?_
      refine e_icmp_eq (t := 40) rfl rfl (xnm_no rfl) (xnm_no rfl) h (fun h => ?_) (fun h => ?_)
      · refine e_iinc (y := 1) rfl rfl rfl (by decide) (xnm_no rfl) ?_
        refine e_goto (t := 12) rfl rfl rfl ?_
        exact xlfI h
      · refine e_iconst (x := 0) rfl (by decide) (xnm_no rfl) ?_
        cases h
        exact e_retI rfl (by decide)
set_option maxRecDepth 4000 in
theorem fX11_set_0_i (v1 : Int32) (v2 : Int32) (m : xmm) {z : Int32 × xmm} (h : (if v1 < 0 then some ((-1 : Int32), m) else (fX3_everyPost 10 m).bind fun (w1 : Int32 × xmm) => if v1 ≤ w1.1 then (fX11_study_0 w1.2).bind fun (w3 : xmm) => if v2 = 0 then (fX9_isApart 13 v1 w3).bind fun (w6 : Int32 × xmm) => (fX11_bit w6.1 w6.2).bind fun (w8 : Int32 × xmm) => some (w8.1, w8.2) else if v2 = 1 then (fX9_isApart 11 v1 w3).bind fun (w11 : Int32 × xmm) => (fX11_bit w11.1 w11.2).bind fun (w13 : Int32 × xmm) => some (w13.1, w13.2) else if v2 = 2 then (fX3_everyPost 10 w3).bind fun (w16 : Int32 × xmm) => (fX9_isAlike 11 v1 w16.1 w16.2).bind fun (w18 : Int32 × xmm) => (fX11_bit w18.1 w18.2).bind fun (w20 : Int32 × xmm) => some (w20.1, w20.2) else if v2 = 3 then (fX9_isRound 11 v1 w3).bind fun (w23 : Int32 × xmm) => (fX11_bit w23.1 w23.2).bind fun (w25 : Int32 × xmm) => some (w25.1, w25.2) else some ((-1 : Int32), w3) else some ((-1 : Int32), w1.2)) = some z) : fX11_set_0 v1 v2 m = some z := by
  refine xstI ?_
  show xT 139 6 0 [(0, .ref 0), (1, .int v1), (2, .int v2)] [] m (some (.int z.1), z.2)
  refine e_iload_n rfl rfl (xnm_no rfl) ?_
  refine e_if_lt (t := 15) rfl rfl (xnm_no rfl) (xnm_no rfl) h (fun h => ?_) (fun h => ?_)
  · refine e_iconst (x := -1) rfl (by decide) (xnm_no rfl) ?_
    cases h
    exact e_retI rfl rfl
  · refine e_iload_n rfl rfl (xnm_no rfl) ?_
    refine e_aload_n rfl rfl rfl (xnm_no rfl) ?_
    refine e_getR (r := 10) rfl rfl rfl rfl rfl (xnm_no rfl) ?_
    obtain ⟨w1, hw2, h⟩ := xbd_some h
    refine e_cIV (hc := hw2) (rest := [.int _]) rfl rfl rfl rfl rfl rfl rfl rfl (xnm_no rfl) ?_
    refine e_icmp_le (t := 17) rfl rfl (xnm_no rfl) (xnm_no rfl) h (fun h => ?_) (fun h => ?_)
    · refine e_aload_n rfl rfl rfl (xnm_no rfl) ?_
      obtain ⟨w3, hw4, h⟩ := xbd_some h
      refine e_cVV (hc := hw4) (rest := []) rfl rfl rfl rfl rfl rfl rfl rfl (xnm_no rfl) ?_
      refine e_iload_n rfl rfl (xnm_no rfl) ?_
      by_cases c5 : v2 = 0
      · rw [if_pos c5] at h
        refine e_sw (t := 52) (o := 30) rfl (by decide) (xsw_p c5) rfl (xnm_no rfl) ?_
        refine e_aload_n rfl rfl rfl (xnm_no rfl) ?_
        refine e_getR (r := 12) rfl rfl rfl rfl rfl (xnm_no rfl) ?_
        refine e_getR (r := 13) rfl rfl rfl rfl rfl (xnm_no rfl) ?_
        refine e_iload_n rfl rfl (xnm_no rfl) ?_
        obtain ⟨w6, hw7, h⟩ := xbd_some h
        refine e_cIS (hc := hw7) (rest := []) rfl rfl rfl rfl rfl rfl rfl rfl (xnm_no rfl) ?_
        obtain ⟨w8, hw9, h⟩ := xbd_some h
        refine e_cIS (hc := hw9) (rest := []) rfl rfl rfl rfl rfl rfl rfl rfl (xnm_no rfl) ?_
        cases h
        exact e_retI rfl rfl
      · rw [if_neg c5] at h
        by_cases c10 : v2 = 1
        · rw [if_pos c10] at h
          refine e_sw (t := 67) (o := 45) rfl (by decide) (xsw_n c5 (xsw_p c10)) rfl (xnm_no rfl) ?_
          refine e_aload_n rfl rfl rfl (xnm_no rfl) ?_
          refine e_getR (r := 10) rfl rfl rfl rfl rfl (xnm_no rfl) ?_
          refine e_getR (r := 11) rfl rfl rfl rfl rfl (xnm_no rfl) ?_
          refine e_iload_n rfl rfl (xnm_no rfl) ?_
          obtain ⟨w11, hw12, h⟩ := xbd_some h
          refine e_cIS (hc := hw12) (rest := []) rfl rfl rfl rfl rfl rfl rfl rfl (xnm_no rfl) ?_
          obtain ⟨w13, hw14, h⟩ := xbd_some h
          refine e_cIS (hc := hw14) (rest := []) rfl rfl rfl rfl rfl rfl rfl rfl (xnm_no rfl) ?_
          cases h
          exact e_retI rfl rfl
        · rw [if_neg c10] at h
          by_cases c15 : v2 = 2
          · rw [if_pos c15] at h
            refine e_sw (t := 82) (o := 60) rfl (by decide) (xsw_n c5 (xsw_n c10 (xsw_p c15))) rfl (xnm_no rfl) ?_
            refine e_aload_n rfl rfl rfl (xnm_no rfl) ?_
            refine e_getR (r := 10) rfl rfl rfl rfl rfl (xnm_no rfl) ?_
            refine e_getR (r := 11) rfl rfl rfl rfl rfl (xnm_no rfl) ?_
            refine e_iload_n rfl rfl (xnm_no rfl) ?_
            refine e_aload_n rfl rfl rfl (xnm_no rfl) ?_
            refine e_getR (r := 10) rfl rfl rfl rfl rfl (xnm_no rfl) ?_
            obtain ⟨w16, hw17, h⟩ := xbd_some h
            refine e_cIV (hc := hw17) (rest := [.int _, .ref 11]) rfl rfl rfl rfl rfl rfl rfl rfl (xnm_no rfl) ?_
            obtain ⟨w18, hw19, h⟩ := xbd_some h
            refine e_cIS (hc := hw19) (rest := []) rfl rfl rfl rfl rfl rfl rfl rfl (xnm_no rfl) ?_
            obtain ⟨w20, hw21, h⟩ := xbd_some h
            refine e_cIS (hc := hw21) (rest := []) rfl rfl rfl rfl rfl rfl rfl rfl (xnm_no rfl) ?_
            cases h
            exact e_retI rfl rfl
          · rw [if_neg c15] at h
            by_cases c22 : v2 = 3
            · rw [if_pos c22] at h
              refine e_sw (t := 104) (o := 82) rfl (by decide) (xsw_n c5 (xsw_n c10 (xsw_n c15 (xsw_p c22)))) rfl (xnm_no rfl) ?_
              refine e_aload_n rfl rfl rfl (xnm_no rfl) ?_
              refine e_getR (r := 10) rfl rfl rfl rfl rfl (xnm_no rfl) ?_
              refine e_getR (r := 11) rfl rfl rfl rfl rfl (xnm_no rfl) ?_
              refine e_iload_n rfl rfl (xnm_no rfl) ?_
              obtain ⟨w23, hw24, h⟩ := xbd_some h
              refine e_cIS (hc := hw24) (rest := []) rfl rfl rfl rfl rfl rfl rfl rfl (xnm_no rfl) ?_
              obtain ⟨w25, hw26, h⟩ := xbd_some h
              refine e_cIS (hc := hw26) (rest := []) rfl rfl rfl rfl rfl rfl rfl rfl (xnm_no rfl) ?_
              cases h
              exact e_retI rfl rfl
            · rw [if_neg c22] at h
              refine e_sw (t := 119) (o := 97) rfl (by decide) (xsw_n c5 (xsw_n c10 (xsw_n c15 (xsw_n c22 xsw_d)))) rfl (xnm_no rfl) ?_
              refine e_iconst (x := -1) rfl (by decide) (xnm_no rfl) ?_
              cases h
              exact e_retI rfl rfl
    · refine e_iconst (x := -1) rfl (by decide) (xnm_no rfl) ?_
      cases h
      exact e_retI rfl rfl
set_option maxRecDepth 4000 in
theorem fX12_set_144_i (v1 : Int32) (v2 : Int32) (m : xmm) {z : Int32 × xmm} (h : ((fX12_in v1 (0 : Int32) (((1 : Int32) <<< ((m.1 144 17) &&& 31)) - (1 : Int32)) m).bind fun (w1 : Int32 × xmm) => if w1.1 = 0 then some ((-1 : Int32), w1.2) else (fX12_in v2 (0 : Int32) (3 : Int32) w1.2).bind fun (w3 : Int32 × xmm) => if w3.1 = 0 then some ((-1 : Int32), w3.2) else (fX12_isSuch_144 v1 v2 w3.2).bind fun (w5 : Int32 × xmm) => if w5.1 = 0 then some ((0 : Int32), w5.2) else some ((1 : Int32), w5.2)) = some z) : fX12_set_144 v1 v2 m = some z := by
  refine xstI ?_
  show xT 244 4 0 [(0, .ref 144), (1, .int v1), (2, .int v2)] [] m (some (.int z.1), z.2)
  refine e_iload_n rfl rfl (xnm_no rfl) ?_
  refine e_iconst (x := 0) rfl (by decide) (xnm_no rfl) ?_
  refine e_iconst (x := 1) rfl (by decide) (xnm_no rfl) ?_
  refine e_aload_n rfl rfl rfl (xnm_no rfl) ?_
  refine e_getI rfl rfl rfl rfl (xnm_no rfl) ?_
  refine e_ishl rfl (xnm_no rfl) ?_
  refine e_iconst (x := 1) rfl (by decide) (xnm_no rfl) ?_
  refine e_isub rfl (xnm_no rfl) ?_
  obtain ⟨w1, hw2, h⟩ := xbd_some h
  refine e_cIS (hc := hw2) (rest := []) rfl rfl rfl rfl rfl rfl rfl rfl (xnm_no rfl) ?_
  refine e_if_eq (t := 25) rfl rfl (xnm_no rfl) (xnm_no rfl) h (fun h => ?_) (fun h => ?_)
  · refine e_iconst (x := -1) rfl (by decide) (xnm_no rfl) ?_
    cases h
    exact e_retI rfl rfl
  · refine e_iload_n rfl rfl (xnm_no rfl) ?_
    refine e_iconst (x := 0) rfl (by decide) (xnm_no rfl) ?_
    refine e_iconst (x := 3) rfl (by decide) (xnm_no rfl) ?_
    obtain ⟨w3, hw4, h⟩ := xbd_some h
    refine e_cIS (hc := hw4) (rest := []) rfl rfl rfl rfl rfl rfl rfl rfl (xnm_no rfl) ?_
    refine e_if_ne (t := 27) rfl rfl (xnm_no rfl) (xnm_no rfl) h (fun h => ?_) (fun h => ?_)
    · refine e_aload_n rfl rfl rfl (xnm_no rfl) ?_
      refine e_iload_n rfl rfl (xnm_no rfl) ?_
      refine e_iload_n rfl rfl (xnm_no rfl) ?_
      obtain ⟨w5, hw6, h⟩ := xbd_some h
      refine e_cIV (hc := hw6) (rest := []) rfl rfl rfl rfl rfl rfl rfl rfl (xnm_no rfl) ?_
      refine e_if_eq (t := 40) rfl rfl (xnm_no rfl) (xnm_no rfl) h (fun h => ?_) (fun h => ?_)
      · refine e_iconst (x := 0) rfl (by decide) (xnm_no rfl) ?_
        cases h
        exact e_retI rfl rfl
      · refine e_iconst (x := 1) rfl (by decide) (xnm_no rfl) ?_
        refine e_goto (t := 41) rfl rfl (xnm_no rfl) ?_
        cases h
        exact e_retI rfl rfl
    · refine e_iconst (x := -1) rfl (by decide) (xnm_no rfl) ?_
      cases h
      exact e_retI rfl rfl
set_option maxRecDepth 4000 in
theorem fX11_heldIn_0_i (v1 : Int32) (m : xmm) {z : Nat × xmm} (h : (if v1 < 0 then some ((0 : Nat), m) else if (3 : Int32) ≤ v1 then some ((0 : Nat), m) else (fX11_contains (m.1 0 5) v1 m).bind fun (w1 : Int32 × xmm) => if w1.1 = 0 then some ((0 : Nat), w1.2) else xgd (xinb 3 v1) (xgr (xR0 96 (v1).toNatClampNeg) fun r4 => xgd (!(Nat.beq r4 1999)) (some (r4 + 1, w1.2)))) = some z) : fX11_heldIn_0 v1 m = some z := by
  refine xstR ?_
  show xT 150 1 0 [(0, .ref 0), (1, .int v1)] [] m (some (xvR z.1), z.2)
  refine e_iload_n rfl rfl (xnm_no rfl) ?_
  refine e_if_lt (t := 20) rfl rfl (xnm_no rfl) (xnm_no rfl) h (fun h => ?_) (fun h => ?_)
  · refine e_null rfl (xnm_no rfl) ?_
    cases h
    exact e_retN rfl rfl
  · refine e_iload_n rfl rfl (xnm_no rfl) ?_
    refine e_iconst (x := 3) rfl (by decide) (xnm_no rfl) ?_
    refine e_icmp_ge (t := 20) rfl rfl (xnm_no rfl) (xnm_no rfl) h (fun h => ?_) (fun h => ?_)
    · refine e_null rfl (xnm_no rfl) ?_
      cases h
      exact e_retN rfl rfl
    · refine e_aload_n rfl rfl rfl (xnm_no rfl) ?_
      refine e_getI rfl rfl rfl rfl (xnm_no rfl) ?_
      refine e_iload_n rfl rfl (xnm_no rfl) ?_
      obtain ⟨w1, hw2, h⟩ := xbd_some h
      refine e_cIS (hc := hw2) (rest := []) rfl rfl rfl rfl rfl rfl rfl rfl (xnm_no rfl) ?_
      refine e_if_ne (t := 22) rfl rfl (xnm_no rfl) (xnm_no rfl) h (fun h => ?_) (fun h => ?_)
      · refine e_aload_n rfl rfl rfl (xnm_no rfl) ?_
        refine e_getR (r := 96) rfl rfl rfl rfl rfl (xnm_no rfl) ?_
        refine e_iload_n rfl rfl (xnm_no rfl) ?_
        obtain ⟨g3, h⟩ := xgd_some h
        obtain ⟨r4, hr5, h⟩ := xgr_some h
        refine e_aald rfl g3 rfl hr5 (xnm_no rfl) ?_
        obtain ⟨g6, h⟩ := xgd_some h
        cases h
        exact e_retR rfl rfl (xnb g6)
      · refine e_null rfl (xnm_no rfl) ?_
        cases h
        exact e_retN rfl rfl
set_option maxRecDepth 4000 in
theorem fX8_fits_i (v0 : Nat) (v1 : Nat) (v2 : Nat) (v3 : Int32) (v4 : Int32) (m : xmm) {z : Int32 × xmm} (h : (bX8_fits_3 v0 v1 v2 v3 v4 (0 : Int32) m) = some z) : fX8_fits v0 v1 v2 v3 v4 m = some z := by
  refine xstI ?_
  show xT 95 1 0 [(0, .ref v0), (1, .ref v1), (2, .ref v2), (3, .int v3), (4, .int v4)] [] m (some (.int z.1), z.2)
  refine e_iconst (x := 0) rfl (by decide) (xnm_no rfl) ?_
  refine e_istore rfl rfl rfl ?_
  exact xlfI h
set_option maxRecDepth 4000 in
theorem bX8_fits_3_i (v0 : Nat) (v1 : Nat) (v2 : Nat) (v3 : Int32) (v4 : Int32) (v5 : Int32) (m : xmm) {z : Int32 × xmm} (h : (if v3 ≤ v5 then some ((1 : Int32), m) else xgd (!(Nat.beq v0 1999)) (xgd (xia 1 v0 v3) ((fX11_contains (m.1 v0 (v3).toNatClampNeg) v5 m).bind fun (w3 : Int32 × xmm) => xgd (!(Nat.beq v1 1999)) (xgd (xia 1 v1 v4) (xgd (!(Nat.beq v2 1999)) (xgd (xia 1 v2 v5) ((fX11_contains (w3.2.1 v1 (v4).toNatClampNeg) (w3.2.1 v2 (v5).toNatClampNeg) w3.2).bind fun (w9 : Int32 × xmm) => if w3.1 = w9.1 then bX8_fits_3 v0 v1 v2 v3 v4 (v5 + (1 : Int32)) w9.2 else some ((0 : Int32), w9.2)))))))) = some z) : bX8_fits_3 v0 v1 v2 v3 v4 v5 m = some z := by
  refine xstI ?_
  show xT 95 1 3 [(0, .ref v0), (1, .ref v1), (2, .ref v2), (3, .int v3), (4, .int v4), (5, .int v5)] [] m (some (.int z.1), z.2)
  refine e_iload rfl rfl (xnm_no rfl) ?_
  refine e_iload_n rfl rfl (xnm_no rfl) ?_
  refine e_icmp_ge (t := 39) rfl rfl (xnm_no rfl) (xnm_no rfl) h (fun h => ?_) (fun h => ?_)
  · refine e_iconst (x := 1) rfl (by decide) (xnm_no rfl) ?_
    cases h
    exact e_retI rfl (by decide)
  · obtain ⟨g1, h⟩ := xgd_some h
    refine e_aload_n rfl rfl (xnb g1) (xnm_no rfl) ?_
    refine e_iload_n rfl rfl (xnm_no rfl) ?_
    obtain ⟨g2, h⟩ := xgd_some h
    refine e_iald rfl g2 (xnm_no rfl) ?_
    refine e_iload rfl rfl (xnm_no rfl) ?_
    obtain ⟨w3, hw4, h⟩ := xbd_some h
    refine e_cIS (hc := hw4) (rest := []) rfl rfl rfl rfl rfl rfl rfl rfl (xnm_no rfl) ?_
    obtain ⟨g5, h⟩ := xgd_some h
    refine e_aload_n rfl rfl (xnb g5) (xnm_no rfl) ?_
    refine e_iload rfl rfl (xnm_no rfl) ?_
    obtain ⟨g6, h⟩ := xgd_some h
    refine e_iald rfl g6 (xnm_no rfl) ?_
    obtain ⟨g7, h⟩ := xgd_some h
    refine e_aload_n rfl rfl (xnb g7) (xnm_no rfl) ?_
    refine e_iload rfl rfl (xnm_no rfl) ?_
    obtain ⟨g8, h⟩ := xgd_some h
    refine e_iald rfl g8 (xnm_no rfl) ?_
    obtain ⟨w9, hw10, h⟩ := xbd_some h
    refine e_cIS (hc := hw10) (rest := [.int _]) rfl rfl rfl rfl rfl rfl rfl rfl (xnm_no rfl) ?_
    refine e_icmp_eq (t := 33) rfl rfl (xnm_no rfl) (xnm_no rfl) h (fun h => ?_) (fun h => ?_)
    · refine e_iinc (y := 1) rfl rfl rfl (by decide) (xnm_no rfl) ?_
      refine e_goto (t := 3) rfl rfl rfl ?_
      exact xlfI h
    · refine e_iconst (x := 0) rfl (by decide) (xnm_no rfl) ?_
      cases h
      exact e_retI rfl (by decide)
set_option maxRecDepth 4000 in
theorem fX8_canSend_i (v0 : Nat) (v1 : Nat) (v2 : Nat) (v3 : Int32) (v4 : Int32) (v5 : Int32) (m : xmm) {z : Int32 × xmm} (h : (if v4 ≤ v3 then some ((1 : Int32), m) else if v3 < (8 : Int32) then bX8_canSend_17 (xrk 96 [.ref v0, .ref v1, .ref v2, .int v3, .int v4, .int v5]) v0 v1 v2 v3 v4 v5 (0 : Int32) m else some ((1 : Int32), m)) = some z) : fX8_canSend v0 v1 v2 v3 v4 v5 m = some z := by
  refine xstI ?_
  show xT 96 (xrk 96 [.ref v0, .ref v1, .ref v2, .int v3, .int v4, .int v5]) 0 [(0, .ref v0), (1, .ref v1), (2, .ref v2), (3, .int v3), (4, .int v4), (5, .int v5)] [] m (some (.int z.1), z.2)
  refine e_iload_n rfl rfl (xnm_no rfl) ?_
  refine e_iload rfl rfl (xnm_no rfl) ?_
  refine e_icmp_ge (t := 12) rfl rfl (xnm_no rfl) (xnm_no rfl) h (fun h => ?_) (fun h => ?_)
  · refine e_iconst (x := 1) rfl (by decide) (xnm_no rfl) ?_
    cases h
    exact e_retI rfl (by decide)
  · refine e_iload_n rfl rfl (xnm_no rfl) ?_
    refine e_bipush (x := 8) rfl (by decide) (xnm_no rfl) ?_
    refine e_icmp_lt (t := 14) rfl rfl (xnm_no rfl) (xnm_no rfl) h (fun h => ?_) (fun h => ?_)
    · refine e_iconst (x := 0) rfl (by decide) (xnm_no rfl) ?_
      refine e_istore rfl rfl rfl ?_
      exact xlfI h
    · refine e_iconst (x := 1) rfl (by decide) (xnm_no rfl) ?_
      cases h
      exact e_retI rfl (by decide)
set_option maxRecDepth 4000 in
theorem bX8_canSend_17_i (rk : Nat) (v0 : Nat) (v1 : Nat) (v2 : Nat) (v3 : Int32) (v4 : Int32) (v5 : Int32) (v6 : Int32) (m : xmm) {z : Int32 × xmm} (h : (if v4 ≤ v6 then some ((0 : Int32), m) else xgd (xcg 96 rk 147 [.int v5, .int v6] []) ((fX11_contains v5 v6 m).bind fun (w1 : Int32 × xmm) => if w1.1 = 0 then xgd (!(Nat.beq v0 1999)) (xgd (!(Nat.beq v1 1999)) (xgd (!(Nat.beq v2 1999)) (xgd (xcg 96 rk 95 [.ref v0, .ref v1, .ref v2, .int v3, .int v6] []) ((fX8_fits v0 v1 v2 v3 v6 w1.2).bind fun (w7 : Int32 × xmm) => if w7.1 = 0 then bX8_canSend_17 rk v0 v1 v2 v3 v4 v5 (v6 + (1 : Int32)) w7.2 else xgd (xia 1 v2 v3) (xlt (xwi w7.2 v2 (v3).toNatClampNeg v6) fun (m11 : xmm) => xgd (xcg 96 rk 96 [.ref v0, .ref v1, .ref v2, .int (v3 + (1 : Int32)), .int v4, .int (v5 ||| ((1 : Int32) <<< (v6 &&& 31)))] []) ((fX8_canSend v0 v1 v2 (v3 + (1 : Int32)) v4 (v5 ||| ((1 : Int32) <<< (v6 &&& 31))) m11).bind fun (w12 : Int32 × xmm) => if w12.1 = 0 then bX8_canSend_17 rk v0 v1 v2 v3 v4 v5 (v6 + (1 : Int32)) w12.2 else some ((1 : Int32), w12.2))))))) else bX8_canSend_17 rk v0 v1 v2 v3 v4 v5 (v6 + (1 : Int32)) w1.2)) = some z) : bX8_canSend_17 rk v0 v1 v2 v3 v4 v5 v6 m = some z := by
  refine xstI ?_
  show xT 96 rk 17 [(0, .ref v0), (1, .ref v1), (2, .ref v2), (3, .int v3), (4, .int v4), (5, .int v5), (6, .int v6)] [] m (some (.int z.1), z.2)
  refine e_iload rfl rfl (xnm_no rfl) ?_
  refine e_iload rfl rfl (xnm_no rfl) ?_
  refine e_icmp_ge (t := 80) rfl rfl (xnm_no rfl) (xnm_no rfl) h (fun h => ?_) (fun h => ?_)
  · refine e_iconst (x := 0) rfl (by decide) (xnm_no rfl) ?_
    cases h
    exact e_retI rfl (by decide)
  · refine e_iload rfl rfl (xnm_no rfl) ?_
    refine e_iload rfl rfl (xnm_no rfl) ?_
    obtain ⟨g3, h⟩ := xgd_some h
    obtain ⟨w1, hw2, h⟩ := xbd_some h
    refine e_cIS (hc := hw2) (rest := []) rfl rfl rfl rfl rfl rfl g3 rfl (xnm_no rfl) ?_
    refine e_if_ne (t := 74) rfl rfl (xnm_no rfl) (xnm_no rfl) h (fun h => ?_) (fun h => ?_)
    · refine e_iinc (y := 1) rfl rfl rfl (by decide) (xnm_no rfl) ?_
      refine e_goto (t := 17) rfl rfl rfl ?_
      exact xlfI h
    · obtain ⟨g4, h⟩ := xgd_some h
      refine e_aload_n rfl rfl (xnb g4) (xnm_no rfl) ?_
      obtain ⟨g5, h⟩ := xgd_some h
      refine e_aload_n rfl rfl (xnb g5) (xnm_no rfl) ?_
      obtain ⟨g6, h⟩ := xgd_some h
      refine e_aload_n rfl rfl (xnb g6) (xnm_no rfl) ?_
      refine e_iload_n rfl rfl (xnm_no rfl) ?_
      refine e_iload rfl rfl (xnm_no rfl) ?_
      obtain ⟨g9, h⟩ := xgd_some h
      obtain ⟨w7, hw8, h⟩ := xbd_some h
      refine e_cIS (hc := hw8) (rest := []) rfl rfl rfl rfl rfl rfl g9 rfl (xnm_no rfl) ?_
      refine e_if_eq (t := 74) rfl rfl (xnm_no rfl) (xnm_no rfl) h (fun h => ?_) (fun h => ?_)
      · refine e_iinc (y := 1) rfl rfl rfl (by decide) (xnm_no rfl) ?_
        refine e_goto (t := 17) rfl rfl rfl ?_
        exact xlfI h
      · refine e_aload_n rfl rfl (xnb g6) (xnm_no rfl) ?_
        refine e_iload_n rfl rfl (xnm_no rfl) ?_
        refine e_iload rfl rfl (xnm_no rfl) ?_
        obtain ⟨g10, h⟩ := xgd_some h
        refine e_iast rfl g10 (xnm_no rfl) ?_
        replace h := xlt_b h
        refine e_aload_n rfl rfl (xnb g4) (xnm_no rfl) ?_
        refine e_aload_n rfl rfl (xnb g5) (xnm_no rfl) ?_
        refine e_aload_n rfl rfl (xnb g6) (xnm_no rfl) ?_
        refine e_iload_n rfl rfl (xnm_no rfl) ?_
        refine e_iconst (x := 1) rfl (by decide) (xnm_no rfl) ?_
        refine e_iadd rfl (xnm_no rfl) ?_
        refine e_iload rfl rfl (xnm_no rfl) ?_
        refine e_iload rfl rfl (xnm_no rfl) ?_
        refine e_iconst (x := 1) rfl (by decide) (xnm_no rfl) ?_
        refine e_iload rfl rfl (xnm_no rfl) ?_
        refine e_ishl rfl (xnm_no rfl) ?_
        refine e_ior rfl (xnm_no rfl) ?_
        obtain ⟨g14, h⟩ := xgd_some h
        obtain ⟨w12, hw13, h⟩ := xbd_some h
        refine e_cIS (hc := hw13) (rest := []) rfl rfl rfl rfl rfl rfl g14 rfl (xnm_no rfl) ?_
        refine e_if_eq (t := 74) rfl rfl (xnm_no rfl) (xnm_no rfl) h (fun h => ?_) (fun h => ?_)
        · refine e_iinc (y := 1) rfl rfl rfl (by decide) (xnm_no rfl) ?_
          refine e_goto (t := 17) rfl rfl rfl ?_
          exact xlfI h
        · refine e_iconst (x := 1) rfl (by decide) (xnm_no rfl) ?_
          cases h
          exact e_retI rfl (by decide)
set_option maxRecDepth 4000 in
theorem fX8_waysToItself_136_i (v1 : Nat) (v2 : Int32) (m : xmm) {z : Int32 × xmm} (h : (bX8_waysToItself_136_5 v1 v2 (1 : Int32) (0 : Int32) m) = some z) : fX8_waysToItself_136 v1 v2 m = some z := by
  refine xstI ?_
  show xT 94 12 0 [(0, .ref 136), (1, .ref v1), (2, .int v2)] [] m (some (.int z.1), z.2)
  refine e_iconst (x := 1) rfl (by decide) (xnm_no rfl) ?_
  refine e_istore_n rfl rfl (xnm_no rfl) ?_
  refine e_iconst (x := 0) rfl (by decide) (xnm_no rfl) ?_
  refine e_istore rfl rfl rfl ?_
  exact xlfI h
set_option maxRecDepth 4000 in
theorem bX8_waysToItself_136_5_i (v1 : Nat) (v2 : Int32) (v3 : Int32) (v4 : Int32) (m : xmm) {z : Int32 × xmm} (h : (if v2 ≤ v4 then some (v3, m) else bX8_waysToItself_136_26 v1 v2 v3 v4 (0 : Int32) (((1 : Int32) <<< (v4 &&& 31)) - (1 : Int32)) v4 m) = some z) : bX8_waysToItself_136_5 v1 v2 v3 v4 m = some z := by
  refine xstI ?_
  show xT 94 12 5 [(0, .ref 136), (1, .ref v1), (2, .int v2), (3, .int v3), (4, .int v4)] [] m (some (.int z.1), z.2)
  refine e_iload rfl rfl (xnm_no rfl) ?_
  refine e_iload_n rfl rfl (xnm_no rfl) ?_
  refine e_icmp_ge (t := 112) rfl rfl (xnm_no rfl) (xnm_no rfl) h (fun h => ?_) (fun h => ?_)
  · refine e_iload_n rfl rfl (xnm_no rfl) ?_
    cases h
    exact e_retI rfl rfl
  · refine e_iconst (x := 0) rfl (by decide) (xnm_no rfl) ?_
    refine e_istore rfl rfl (xnm_no rfl) ?_
    refine e_iconst (x := 1) rfl (by decide) (xnm_no rfl) ?_
    refine e_iload rfl rfl (xnm_no rfl) ?_
    refine e_ishl rfl (xnm_no rfl) ?_
    refine e_iconst (x := 1) rfl (by decide) (xnm_no rfl) ?_
    refine e_isub rfl (xnm_no rfl) ?_
    refine e_istore rfl rfl (xnm_no rfl) ?_
    refine e_iload rfl rfl (xnm_no rfl) ?_
    refine e_istore rfl rfl rfl ?_
    exact xlfI h
set_option maxRecDepth 4000 in
theorem bX8_waysToItself_136_26_i (v1 : Nat) (v2 : Int32) (v3 : Int32) (v4 : Int32) (v5 : Int32) (v6 : Int32) (v7 : Int32) (m : xmm) {z : Int32 × xmm} (h : (if v2 ≤ v7 then xgd (xinb 8 v4) (xlt (xwi m 137 (v4).toNatClampNeg v4) fun (m2 : xmm) => bX8_waysToItself_136_5 v1 v2 (v3 * v5) (v4 + (1 : Int32)) m2) else xgd (!(Nat.beq v1 1999)) ((fX8_fits v1 v1 137 v4 v7 m).bind fun (w4 : Int32 × xmm) => if w4.1 = 0 then bX8_waysToItself_136_26 v1 v2 v3 v4 v5 v6 (v7 + (1 : Int32)) w4.2 else xgd (xinb 8 v4) (xlt (xwi w4.2 137 (v4).toNatClampNeg v7) fun (m7 : xmm) => xgd (xcg 94 12 96 [.ref v1, .ref v1, .ref 137, .int (v4 + (1 : Int32)), .int v2, .int (v6 ||| ((1 : Int32) <<< (v7 &&& 31)))] [.int v5]) ((fX8_canSend v1 v1 137 (v4 + (1 : Int32)) v2 (v6 ||| ((1 : Int32) <<< (v7 &&& 31))) m7).bind fun (w8 : Int32 × xmm) => (fX11_bit w8.1 w8.2).bind fun (w11 : Int32 × xmm) => bX8_waysToItself_136_26 v1 v2 v3 v4 (v5 + w11.1) v6 (v7 + (1 : Int32)) w11.2)))) = some z) : bX8_waysToItself_136_26 v1 v2 v3 v4 v5 v6 v7 m = some z := by
  refine xstI ?_
  show xT 94 12 26 [(0, .ref 136), (1, .ref v1), (2, .int v2), (3, .int v3), (4, .int v4), (5, .int v5), (6, .int v6), (7, .int v7)] [] m (some (.int z.1), z.2)
  refine e_iload rfl rfl (xnm_no rfl) ?_
  refine e_iload_n rfl rfl (xnm_no rfl) ?_
  refine e_icmp_ge (t := 92) rfl rfl (xnm_no rfl) (xnm_no rfl) h (fun h => ?_) (fun h => ?_)
  · refine e_aload_n rfl rfl rfl (xnm_no rfl) ?_
    refine e_getR (r := 137) rfl rfl rfl rfl rfl (xnm_no rfl) ?_
    refine e_iload rfl rfl (xnm_no rfl) ?_
    refine e_iload rfl rfl (xnm_no rfl) ?_
    obtain ⟨g1, h⟩ := xgd_some h
    refine e_iast rfl g1 (xnm_no rfl) ?_
    replace h := xlt_b h
    refine e_iload_n rfl rfl (xnm_no rfl) ?_
    refine e_iload rfl rfl (xnm_no rfl) ?_
    refine e_imul rfl (xnm_no rfl) ?_
    refine e_istore_n rfl rfl (xnm_no rfl) ?_
    refine e_iinc (y := 1) rfl rfl rfl (by decide) (xnm_no rfl) ?_
    refine e_goto (t := 5) rfl rfl rfl ?_
    exact xlfI h
  · obtain ⟨g3, h⟩ := xgd_some h
    refine e_aload_n rfl rfl (xnb g3) (xnm_no rfl) ?_
    refine e_aload_n rfl rfl (xnb g3) (xnm_no rfl) ?_
    refine e_aload_n rfl rfl rfl (xnm_no rfl) ?_
    refine e_getR (r := 137) rfl rfl rfl rfl rfl (xnm_no rfl) ?_
    refine e_iload rfl rfl (xnm_no rfl) ?_
    refine e_iload rfl rfl (xnm_no rfl) ?_
    obtain ⟨w4, hw5, h⟩ := xbd_some h
    refine e_cIS (hc := hw5) (rest := []) rfl rfl rfl rfl rfl rfl rfl rfl (xnm_no rfl) ?_
    refine e_if_eq (t := 86) rfl rfl (xnm_no rfl) (xnm_no rfl) h (fun h => ?_) (fun h => ?_)
    · refine e_iinc (y := 1) rfl rfl rfl (by decide) (xnm_no rfl) ?_
      refine e_goto (t := 26) rfl rfl rfl ?_
      exact xlfI h
    · refine e_aload_n rfl rfl rfl (xnm_no rfl) ?_
      refine e_getR (r := 137) rfl rfl rfl rfl rfl (xnm_no rfl) ?_
      refine e_iload rfl rfl (xnm_no rfl) ?_
      refine e_iload rfl rfl (xnm_no rfl) ?_
      obtain ⟨g6, h⟩ := xgd_some h
      refine e_iast rfl g6 (xnm_no rfl) ?_
      replace h := xlt_b h
      refine e_iload rfl rfl (xnm_no rfl) ?_
      refine e_aload_n rfl rfl (xnb g3) (xnm_no rfl) ?_
      refine e_aload_n rfl rfl (xnb g3) (xnm_no rfl) ?_
      refine e_aload_n rfl rfl rfl (xnm_no rfl) ?_
      refine e_getR (r := 137) rfl rfl rfl rfl rfl (xnm_no rfl) ?_
      refine e_iload rfl rfl (xnm_no rfl) ?_
      refine e_iconst (x := 1) rfl (by decide) (xnm_no rfl) ?_
      refine e_iadd rfl (xnm_no rfl) ?_
      refine e_iload_n rfl rfl (xnm_no rfl) ?_
      refine e_iload rfl rfl (xnm_no rfl) ?_
      refine e_iconst (x := 1) rfl (by decide) (xnm_no rfl) ?_
      refine e_iload rfl rfl (xnm_no rfl) ?_
      refine e_ishl rfl (xnm_no rfl) ?_
      refine e_ior rfl (xnm_no rfl) ?_
      obtain ⟨g10, h⟩ := xgd_some h
      obtain ⟨w8, hw9, h⟩ := xbd_some h
      refine e_cIS (hc := hw9) (rest := [.int _]) rfl rfl rfl rfl rfl rfl g10 rfl (xnm_no rfl) ?_
      obtain ⟨w11, hw12, h⟩ := xbd_some h
      refine e_cIS (hc := hw12) (rest := [.int _]) rfl rfl rfl rfl rfl rfl rfl rfl (xnm_no rfl) ?_
      refine e_iadd rfl (xnm_no rfl) ?_
      refine e_istore rfl rfl (xnm_no rfl) ?_
      refine e_iinc (y := 1) rfl rfl rfl (by decide) (xnm_no rfl) ?_
      refine e_goto (t := 26) rfl rfl rfl ?_
      exact xlfI h
set_option maxRecDepth 4000 in
theorem fX8_ways_136_10_i (v2 : Nat) (m : xmm) {z : Int32 × xmm} (h : (xlt (if (8 : Int32) < (m.1 10 0) then (8 : Int32) else (m.1 10 0)) fun (x1 : Int32) => xgd (!(Nat.beq v2 1999)) (xgd (xob v2 3) (if (m.1 10 0) = (m.1 v2 0) then xgr (xR0 v2 2) fun r4 => xgd (xcg 93 13 96 [.ref 11, .ref r4, .ref 137, .int (0 : Int32), .int x1, .int (0 : Int32)] []) ((fX8_canSend 11 r4 137 (0 : Int32) x1 (0 : Int32) m).bind fun (w6 : Int32 × xmm) => if w6.1 = 0 then some ((0 : Int32), w6.2) else (fX8_waysToItself_136 11 x1 w6.2).bind fun (w9 : Int32 × xmm) => some (w9.1, w9.2)) else some ((0 : Int32), m)))) = some z) : fX8_ways_136_10 v2 m = some z := by
  refine xstI ?_
  show xT 93 13 0 [(0, .ref 136), (1, .ref 10), (2, .ref v2)] [] m (some (.int z.1), z.2)
  refine e_aload_n rfl rfl rfl (xnm_no rfl) ?_
  refine e_getI rfl rfl rfl rfl (xnm_no rfl) ?_
  refine e_bipush (x := 8) rfl (by decide) (xnm_no rfl) ?_
  refine e_min rfl rfl rfl (xnm_no rfl) ?_
  replace h := xlt_b h
  refine e_istore_n rfl rfl (xnm_no rfl) ?_
  refine e_aload_n rfl rfl rfl (xnm_no rfl) ?_
  refine e_getI rfl rfl rfl rfl (xnm_no rfl) ?_
  obtain ⟨g2, h⟩ := xgd_some h
  refine e_aload_n rfl rfl (xnb g2) (xnm_no rfl) ?_
  obtain ⟨g3, h⟩ := xgd_some h
  refine e_getI rfl rfl rfl g3 (xnm_no rfl) ?_
  refine e_icmp_ne (t := 42) rfl rfl (xnm_no rfl) (xnm_no rfl) h (fun h => ?_) (fun h => ?_)
  · refine e_iconst (x := 0) rfl (by decide) (xnm_no rfl) ?_
    cases h
    exact e_retI rfl rfl
  · refine e_aload_n rfl rfl rfl (xnm_no rfl) ?_
    refine e_getR (r := 11) rfl rfl rfl rfl rfl (xnm_no rfl) ?_
    refine e_aload_n rfl rfl (xnb g2) (xnm_no rfl) ?_
    obtain ⟨r4, hr5, h⟩ := xgr_some h
    refine e_getR rfl rfl rfl g3 hr5 (xnm_no rfl) ?_
    refine e_aload_n rfl rfl rfl (xnm_no rfl) ?_
    refine e_getR (r := 137) rfl rfl rfl rfl rfl (xnm_no rfl) ?_
    refine e_iconst (x := 0) rfl (by decide) (xnm_no rfl) ?_
    refine e_iload_n rfl rfl (xnm_no rfl) ?_
    refine e_iconst (x := 0) rfl (by decide) (xnm_no rfl) ?_
    obtain ⟨g8, h⟩ := xgd_some h
    obtain ⟨w6, hw7, h⟩ := xbd_some h
    refine e_cIS (hc := hw7) (rest := []) rfl rfl rfl rfl rfl rfl g8 rfl (xnm_no rfl) ?_
    refine e_if_ne (t := 44) rfl rfl (xnm_no rfl) (xnm_no rfl) h (fun h => ?_) (fun h => ?_)
    · refine e_aload_n rfl rfl rfl (xnm_no rfl) ?_
      refine e_aload_n rfl rfl rfl (xnm_no rfl) ?_
      refine e_getR (r := 11) rfl rfl rfl rfl rfl (xnm_no rfl) ?_
      refine e_iload_n rfl rfl (xnm_no rfl) ?_
      obtain ⟨w9, hw10, h⟩ := xbd_some h
      refine e_cIV (hc := hw10) (rest := []) rfl rfl rfl rfl rfl rfl rfl rfl (xnm_no rfl) ?_
      cases h
      exact e_retI rfl rfl
    · refine e_iconst (x := 0) rfl (by decide) (xnm_no rfl) ?_
      cases h
      exact e_retI rfl rfl
set_option maxRecDepth 4000 in
theorem fX11_like_0_i (v1 : Int32) (m : xmm) {z : Int32 × xmm} (h : ((fX11_heldIn_0 v1 m).bind fun (w1 : Nat × xmm) => xrc w1.1 (some ((-1 : Int32), w1.2)) fun k3 => xgd (!(Nat.beq k3 1999)) ((fX8_ways_136_10 k3 w1.2).bind fun (w6 : Int32 × xmm) => some (w6.1, w6.2))) = some z) : fX11_like_0 v1 m = some z := by
  refine xstI ?_
  show xT 140 14 0 [(0, .ref 0), (1, .int v1)] [] m (some (.int z.1), z.2)
  refine e_aload_n rfl rfl rfl (xnm_no rfl) ?_
  refine e_iload_n rfl rfl (xnm_no rfl) ?_
  obtain ⟨w1, hw2, h⟩ := xbd_some h
  refine e_cRV (hc := hw2) (rest := []) rfl rfl rfl rfl rfl rfl rfl rfl (xnm_no rfl) ?_
  rcases w1 with ⟨_ | k3, m4⟩
  · refine e_astore_nN rfl rfl (xnm_no rfl) ?_
    refine e_aload_nN rfl rfl (xnm_no rfl) ?_
    refine e_nonnullN rfl (xnm_no rfl) ?_
    refine e_iconst (x := -1) rfl (by decide) (xnm_no rfl) ?_
    refine e_goto (t := 26) rfl rfl (xnm_no rfl) ?_
    cases h
    exact e_retI rfl rfl
  · obtain ⟨g5, h⟩ := xgd_some h
    refine e_astore_n rfl rfl (xnb g5) (xnm_no rfl) ?_
    refine e_aload_n rfl rfl (xnb g5) (xnm_no rfl) ?_
    refine e_nonnull (t := 14) rfl (xnb g5) rfl (xnm_no rfl) ?_
    refine e_aload_n rfl rfl rfl (xnm_no rfl) ?_
    refine e_getR (r := 136) rfl rfl rfl rfl rfl (xnm_no rfl) ?_
    refine e_aload_n rfl rfl rfl (xnm_no rfl) ?_
    refine e_getR (r := 10) rfl rfl rfl rfl rfl (xnm_no rfl) ?_
    refine e_aload_n rfl rfl (xnb g5) (xnm_no rfl) ?_
    obtain ⟨w6, hw7, h⟩ := xbd_some h
    refine e_cIV (hc := hw7) (rest := []) rfl rfl rfl rfl rfl rfl rfl rfl (xnm_no rfl) ?_
    cases h
    exact e_retI rfl rfl
set_option maxRecDepth 4000 in
theorem fX12_fitsAt_144_i (v1 : Int32) (m : xmm) {z : Int32 × xmm} (h : (bX12_fitsAt_144_2 v1 (0 : Int32) m) = some z) : fX12_fitsAt_144 v1 m = some z := by
  refine xstI ?_
  show xT 251 1 0 [(0, .ref 144), (1, .int v1)] [] m (some (.int z.1), z.2)
  refine e_iconst (x := 0) rfl (by decide) (xnm_no rfl) ?_
  refine e_istore_n rfl rfl rfl ?_
  exact xlfI h
set_option maxRecDepth 4000 in
theorem bX12_fitsAt_144_2_i (v1 : Int32) (v2 : Int32) (m : xmm) {z : Int32 × xmm} (h : (if v1 ≤ v2 then some ((1 : Int32), m) else xgd (xinb 8 v2) (xgd (xinb 8 v1) (if (m.1 182 (v2).toNatClampNeg) = (m.1 182 (v1).toNatClampNeg) then some ((0 : Int32), m) else xgd (xinb 9 v1) ((fX12_has (m.1 152 (v1).toNatClampNeg) v2 m).bind fun (w4 : Int32 × xmm) => xgd (xinb 9 (w4.2.1 182 (v1).toNatClampNeg)) ((fX12_has (w4.2.1 183 ((w4.2.1 182 (v1).toNatClampNeg)).toNatClampNeg) (w4.2.1 182 (v2).toNatClampNeg) w4.2).bind fun (w7 : Int32 × xmm) => if w4.1 = w7.1 then bX12_fitsAt_144_2 v1 (v2 + (1 : Int32)) w7.2 else some ((0 : Int32), w7.2)))))) = some z) : bX12_fitsAt_144_2 v1 v2 m = some z := by
  refine xstI ?_
  show xT 251 1 2 [(0, .ref 144), (1, .int v1), (2, .int v2)] [] m (some (.int z.1), z.2)
  refine e_iload_n rfl rfl (xnm_no rfl) ?_
  refine e_iload_n rfl rfl (xnm_no rfl) ?_
  refine e_icmp_ge (t := 63) rfl rfl (xnm_no rfl) (xnm_no rfl) h (fun h => ?_) (fun h => ?_)
  · refine e_iconst (x := 1) rfl (by decide) (xnm_no rfl) ?_
    cases h
    exact e_retI rfl (by decide)
  · refine e_aload_n rfl rfl rfl (xnm_no rfl) ?_
    refine e_getR (r := 182) rfl rfl rfl rfl rfl (xnm_no rfl) ?_
    refine e_iload_n rfl rfl (xnm_no rfl) ?_
    obtain ⟨g1, h⟩ := xgd_some h
    refine e_iald rfl g1 (xnm_no rfl) ?_
    refine e_aload_n rfl rfl rfl (xnm_no rfl) ?_
    refine e_getR (r := 182) rfl rfl rfl rfl rfl (xnm_no rfl) ?_
    refine e_iload_n rfl rfl (xnm_no rfl) ?_
    obtain ⟨g2, h⟩ := xgd_some h
    refine e_iald rfl g2 (xnm_no rfl) ?_
    refine e_icmp_eq (t := 55) rfl rfl (xnm_no rfl) (xnm_no rfl) h (fun h => ?_) (fun h => ?_)
    · refine e_iconst (x := 0) rfl (by decide) (xnm_no rfl) ?_
      cases h
      exact e_retI rfl (by decide)
    · refine e_aload_n rfl rfl rfl (xnm_no rfl) ?_
      refine e_getR (r := 152) rfl rfl rfl rfl rfl (xnm_no rfl) ?_
      refine e_iload_n rfl rfl (xnm_no rfl) ?_
      obtain ⟨g3, h⟩ := xgd_some h
      refine e_iald rfl g3 (xnm_no rfl) ?_
      refine e_iload_n rfl rfl (xnm_no rfl) ?_
      obtain ⟨w4, hw5, h⟩ := xbd_some h
      refine e_cIS (hc := hw5) (rest := []) rfl rfl rfl rfl rfl rfl rfl rfl (xnm_no rfl) ?_
      refine e_aload_n rfl rfl rfl (xnm_no rfl) ?_
      refine e_getR (r := 183) rfl rfl rfl rfl rfl (xnm_no rfl) ?_
      refine e_aload_n rfl rfl rfl (xnm_no rfl) ?_
      refine e_getR (r := 182) rfl rfl rfl rfl rfl (xnm_no rfl) ?_
      refine e_iload_n rfl rfl (xnm_no rfl) ?_
      refine e_iald rfl g2 (xnm_no rfl) ?_
      obtain ⟨g6, h⟩ := xgd_some h
      refine e_iald rfl g6 (xnm_no rfl) ?_
      refine e_aload_n rfl rfl rfl (xnm_no rfl) ?_
      refine e_getR (r := 182) rfl rfl rfl rfl rfl (xnm_no rfl) ?_
      refine e_iload_n rfl rfl (xnm_no rfl) ?_
      refine e_iald rfl g1 (xnm_no rfl) ?_
      obtain ⟨w7, hw8, h⟩ := xbd_some h
      refine e_cIS (hc := hw8) (rest := [.int _]) rfl rfl rfl rfl rfl rfl rfl rfl (xnm_no rfl) ?_
      refine e_icmp_eq (t := 57) rfl rfl (xnm_no rfl) (xnm_no rfl) h (fun h => ?_) (fun h => ?_)
      · refine e_iinc (y := 1) rfl rfl rfl (by decide) (xnm_no rfl) ?_
        refine e_goto (t := 2) rfl rfl rfl ?_
        exact xlfI h
      · refine e_iconst (x := 0) rfl (by decide) (xnm_no rfl) ?_
        cases h
        exact e_retI rfl (by decide)
set_option maxRecDepth 4000 in
theorem fX12_likes_144_i (m : xmm) {z : Int32 × xmm} (h : (if (m.1 144 17) = 0 then some ((1 : Int32), m) else xlt (xwi m 182 0 (-1 : Int32)) fun (m1 : xmm) => bX12_likes_144_20 (0 : Int32) (0 : Int32) m1) = some z) : fX12_likes_144 m = some z := by
  refine xstI ?_
  show xT 252 2 0 [(0, .ref 144)] [] m (some (.int z.1), z.2)
  refine e_aload_n rfl rfl rfl (xnm_no rfl) ?_
  refine e_getI rfl rfl rfl rfl (xnm_no rfl) ?_
  refine e_if_ne (t := 9) rfl rfl (xnm_no rfl) (xnm_no rfl) h (fun h => ?_) (fun h => ?_)
  · refine e_iconst (x := 0) rfl (by decide) (xnm_no rfl) ?_
    refine e_istore_n rfl rfl (xnm_no rfl) ?_
    refine e_iconst (x := 0) rfl (by decide) (xnm_no rfl) ?_
    refine e_istore_n rfl rfl (xnm_no rfl) ?_
    refine e_aload_n rfl rfl rfl (xnm_no rfl) ?_
    refine e_getR (r := 182) rfl rfl rfl rfl rfl (xnm_no rfl) ?_
    refine e_iconst (x := 0) rfl (by decide) (xnm_no rfl) ?_
    refine e_iconst (x := -1) rfl (by decide) (xnm_no rfl) ?_
    refine e_iast rfl (by decide) rfl ?_
    replace h := xlt_b h
    exact xlfI h
  · refine e_iconst (x := 1) rfl (by decide) (xnm_no rfl) ?_
    cases h
    exact e_retI rfl rfl
set_option maxRecDepth 4000 in
theorem bX12_likes_144_20_i (v1 : Int32) (v2 : Int32) (m : xmm) {z : Int32 × xmm} (h : (if v2 < 0 then some (v1, m) else xgd (xinb 8 v2) (xlt (xwi m 182 (v2).toNatClampNeg ((m.1 182 (v2).toNatClampNeg) + (1 : Int32))) fun (m2 : xmm) => if (m2.1 182 (v2).toNatClampNeg) = (m2.1 144 17) then bX12_likes_144_20 v1 (v2 + (-1 : Int32)) m2 else (fX12_fitsAt_144 v2 m2).bind fun (w3 : Int32 × xmm) => if w3.1 = 0 then bX12_likes_144_20 v1 v2 w3.2 else if v2 = ((w3.2.1 144 17) - (1 : Int32)) then bX12_likes_144_20 (v1 + (1 : Int32)) v2 w3.2 else xgd (xinb 8 (v2 + (1 : Int32))) (xlt (xwi w3.2 182 ((v2 + (1 : Int32))).toNatClampNeg (-1 : Int32)) fun (m6 : xmm) => bX12_likes_144_20 v1 (v2 + (1 : Int32)) m6))) = some z) : bX12_likes_144_20 v1 v2 m = some z := by
  refine xstI ?_
  show xT 252 2 20 [(0, .ref 144), (1, .int v1), (2, .int v2)] [] m (some (.int z.1), z.2)
  refine e_iload_n rfl rfl (xnm_no rfl) ?_
  refine e_if_lt (t := 93) rfl rfl (xnm_no rfl) (xnm_no rfl) h (fun h => ?_) (fun h => ?_)
  · refine e_iload_n rfl rfl (xnm_no rfl) ?_
    cases h
    exact e_retI rfl rfl
  · refine e_aload_n rfl rfl rfl (xnm_no rfl) ?_
    refine e_getR (r := 182) rfl rfl rfl rfl rfl (xnm_no rfl) ?_
    refine e_iload_n rfl rfl (xnm_no rfl) ?_
    refine e_dup2 rfl rfl rfl (xnm_no rfl) ?_
    obtain ⟨g1, h⟩ := xgd_some h
    refine e_iald rfl g1 (xnm_no rfl) ?_
    refine e_iconst (x := 1) rfl (by decide) (xnm_no rfl) ?_
    refine e_iadd rfl (xnm_no rfl) ?_
    refine e_iast rfl g1 (xnm_no rfl) ?_
    replace h := xlt_b h
    refine e_aload_n rfl rfl rfl (xnm_no rfl) ?_
    refine e_getR (r := 182) rfl rfl rfl rfl rfl (xnm_no rfl) ?_
    refine e_iload_n rfl rfl (xnm_no rfl) ?_
    refine e_iald rfl g1 (xnm_no rfl) ?_
    refine e_aload_n rfl rfl rfl (xnm_no rfl) ?_
    refine e_getI rfl rfl rfl rfl (xnm_no rfl) ?_
    refine e_icmp_ne (t := 53) rfl rfl (xnm_no rfl) (xnm_no rfl) h (fun h => ?_) (fun h => ?_)
    · refine e_aload_n rfl rfl rfl (xnm_no rfl) ?_
      refine e_iload_n rfl rfl (xnm_no rfl) ?_
      obtain ⟨w3, hw4, h⟩ := xbd_some h
      refine e_cIV (hc := hw4) (rest := []) rfl rfl rfl rfl rfl rfl rfl rfl (xnm_no rfl) ?_
      refine e_if_ne (t := 64) rfl rfl (xnm_no rfl) (xnm_no rfl) h (fun h => ?_) (fun h => ?_)
      · refine e_iload_n rfl rfl (xnm_no rfl) ?_
        refine e_aload_n rfl rfl rfl (xnm_no rfl) ?_
        refine e_getI rfl rfl rfl rfl (xnm_no rfl) ?_
        refine e_iconst (x := 1) rfl (by decide) (xnm_no rfl) ?_
        refine e_isub rfl (xnm_no rfl) ?_
        refine e_icmp_ne (t := 80) rfl rfl (xnm_no rfl) (xnm_no rfl) h (fun h => ?_) (fun h => ?_)
        · refine e_iinc (y := 1) rfl rfl rfl (by decide) (xnm_no rfl) ?_
          refine e_aload_n rfl rfl rfl (xnm_no rfl) ?_
          refine e_getR (r := 182) rfl rfl rfl rfl rfl (xnm_no rfl) ?_
          refine e_iload_n rfl rfl (xnm_no rfl) ?_
          refine e_iconst (x := -1) rfl (by decide) (xnm_no rfl) ?_
          obtain ⟨g5, h⟩ := xgd_some h
          refine e_iast rfl g5 (xnm_no rfl) ?_
          replace h := xlt_b h
          refine e_goto (t := 20) rfl rfl rfl ?_
          exact xlfI h
        · refine e_iinc (y := 1) rfl rfl rfl (by decide) (xnm_no rfl) ?_
          refine e_goto (t := 20) rfl rfl rfl ?_
          exact xlfI h
      · refine e_goto (t := 20) rfl rfl rfl ?_
        exact xlfI h
    · refine e_iinc (y := -1) rfl rfl rfl (by decide) (xnm_no rfl) ?_
      refine e_goto (t := 20) rfl rfl rfl ?_
      exact xlfI h
set_option maxRecDepth 4000 in
theorem fX12_like_144_i (v1 : Int32) (m : xmm) {z : Int32 × xmm} (h : ((fX12_in v1 (0 : Int32) (2 : Int32) m).bind fun (w1 : Int32 × xmm) => if w1.1 = 0 then some ((-1 : Int32), w1.2) else xgd (xinb 3 v1) (if (w1.2.1 158 (v1).toNatClampNeg) = 0 then some ((-1 : Int32), w1.2) else bX12_like_144_22 v1 (0 : Int32) w1.2)) = some z) : fX12_like_144 v1 m = some z := by
  refine xstI ?_
  show xT 253 3 0 [(0, .ref 144), (1, .int v1)] [] m (some (.int z.1), z.2)
  refine e_iload_n rfl rfl (xnm_no rfl) ?_
  refine e_iconst (x := 0) rfl (by decide) (xnm_no rfl) ?_
  refine e_iconst (x := 2) rfl (by decide) (xnm_no rfl) ?_
  obtain ⟨w1, hw2, h⟩ := xbd_some h
  refine e_cIS (hc := hw2) (rest := []) rfl rfl rfl rfl rfl rfl rfl rfl (xnm_no rfl) ?_
  refine e_if_eq (t := 18) rfl rfl (xnm_no rfl) (xnm_no rfl) h (fun h => ?_) (fun h => ?_)
  · refine e_iconst (x := -1) rfl (by decide) (xnm_no rfl) ?_
    cases h
    exact e_retI rfl rfl
  · refine e_aload_n rfl rfl rfl (xnm_no rfl) ?_
    refine e_getR (r := 158) rfl rfl rfl rfl rfl (xnm_no rfl) ?_
    refine e_iload_n rfl rfl (xnm_no rfl) ?_
    obtain ⟨g3, h⟩ := xgd_some h
    refine e_bald rfl (xor2 g3) (xnm_no rfl) ?_
    refine e_if_ne (t := 20) rfl rfl (xnm_no rfl) (xnm_no rfl) h (fun h => ?_) (fun h => ?_)
    · refine e_iconst (x := 0) rfl (by decide) (xnm_no rfl) ?_
      refine e_istore_n rfl rfl rfl ?_
      exact xlfI h
    · refine e_iconst (x := -1) rfl (by decide) (xnm_no rfl) ?_
      cases h
      exact e_retI rfl rfl
set_option maxRecDepth 4000 in
theorem bX12_like_144_22_i (v1 : Int32) (v2 : Int32) (m : xmm) {z : Int32 × xmm} (h : (if (9 : Int32) ≤ v2 then (fX12_likes_144 m).bind fun (w1 : Int32 × xmm) => some (w1.1, w1.2) else xgd (xinb 27 (((9 : Int32) * v1) + v2)) (xgd (xinb 9 v2) (xlt (xwi m 183 (v2).toNatClampNeg (m.1 157 ((((9 : Int32) * v1) + v2)).toNatClampNeg)) fun (m5 : xmm) => bX12_like_144_22 v1 (v2 + (1 : Int32)) m5))) = some z) : bX12_like_144_22 v1 v2 m = some z := by
  refine xstI ?_
  show xT 253 3 22 [(0, .ref 144), (1, .int v1), (2, .int v2)] [] m (some (.int z.1), z.2)
  refine e_iload_n rfl rfl (xnm_no rfl) ?_
  refine e_bipush (x := 9) rfl (by decide) (xnm_no rfl) ?_
  refine e_icmp_ge (t := 51) rfl rfl (xnm_no rfl) (xnm_no rfl) h (fun h => ?_) (fun h => ?_)
  · refine e_aload_n rfl rfl rfl (xnm_no rfl) ?_
    obtain ⟨w1, hw2, h⟩ := xbd_some h
    refine e_cIV (hc := hw2) (rest := []) rfl rfl rfl rfl rfl rfl rfl rfl (xnm_no rfl) ?_
    cases h
    exact e_retI rfl rfl
  · refine e_aload_n rfl rfl rfl (xnm_no rfl) ?_
    refine e_getR (r := 183) rfl rfl rfl rfl rfl (xnm_no rfl) ?_
    refine e_iload_n rfl rfl (xnm_no rfl) ?_
    refine e_aload_n rfl rfl rfl (xnm_no rfl) ?_
    refine e_getR (r := 157) rfl rfl rfl rfl rfl (xnm_no rfl) ?_
    refine e_bipush (x := 9) rfl (by decide) (xnm_no rfl) ?_
    refine e_iload_n rfl rfl (xnm_no rfl) ?_
    refine e_imul rfl (xnm_no rfl) ?_
    refine e_iload_n rfl rfl (xnm_no rfl) ?_
    refine e_iadd rfl (xnm_no rfl) ?_
    obtain ⟨g3, h⟩ := xgd_some h
    refine e_iald rfl g3 (xnm_no rfl) ?_
    obtain ⟨g4, h⟩ := xgd_some h
    refine e_iast rfl g4 (xnm_no rfl) ?_
    replace h := xlt_b h
    refine e_iinc (y := 1) rfl rfl rfl (by decide) (xnm_no rfl) ?_
    refine e_goto (t := 22) rfl rfl rfl ?_
    exact xlfI h
set_option maxRecDepth 4000 in
theorem fX11_hold_0_i (v1 : Int32) (m : xmm) {z : Int32 × xmm} (h : (if v1 < 0 then some ((0 : Int32), m) else if v1 < (3 : Int32) then xgd (xinb 3 v1) (xgr (xR0 96 (v1).toNatClampNeg) fun r2 => (fX3_copyFrom r2 10 m).bind fun (w4 : xmm) => xgd (xob r2 3) (xlt (xwi w4 0 5 ((w4.1 0 5) ||| ((1 : Int32) <<< (v1 &&& 31)))) fun (m7 : xmm) => some ((1 : Int32), m7))) else some ((0 : Int32), m)) = some z) : fX11_hold_0 v1 m = some z := by
  refine xstI ?_
  show xT 141 1 0 [(0, .ref 0), (1, .int v1)] [] m (some (.int z.1), z.2)
  refine e_iload_n rfl rfl (xnm_no rfl) ?_
  refine e_if_lt (t := 9) rfl rfl (xnm_no rfl) (xnm_no rfl) h (fun h => ?_) (fun h => ?_)
  · refine e_iconst (x := 0) rfl (by decide) (xnm_no rfl) ?_
    cases h
    exact e_retI rfl (by decide)
  · refine e_iload_n rfl rfl (xnm_no rfl) ?_
    refine e_iconst (x := 3) rfl (by decide) (xnm_no rfl) ?_
    refine e_icmp_lt (t := 11) rfl rfl (xnm_no rfl) (xnm_no rfl) h (fun h => ?_) (fun h => ?_)
    · refine e_aload_n rfl rfl rfl (xnm_no rfl) ?_
      refine e_getR (r := 96) rfl rfl rfl rfl rfl (xnm_no rfl) ?_
      refine e_iload_n rfl rfl (xnm_no rfl) ?_
      obtain ⟨g1, h⟩ := xgd_some h
      obtain ⟨r2, hr3, h⟩ := xgr_some h
      refine e_aald rfl g1 rfl hr3 (xnm_no rfl) ?_
      refine e_aload_n rfl rfl rfl (xnm_no rfl) ?_
      refine e_getR (r := 10) rfl rfl rfl rfl rfl (xnm_no rfl) ?_
      obtain ⟨w4, hw5, h⟩ := xbd_some h
      obtain ⟨g6, h⟩ := xgd_some h
      refine e_cVV (hc := hw5) (rest := []) rfl rfl rfl rfl rfl (xorb g6) rfl rfl (xnm_no rfl) ?_
      refine e_aload_n rfl rfl rfl (xnm_no rfl) ?_
      refine e_dup rfl rfl (xnm_no rfl) ?_
      refine e_getI rfl rfl rfl rfl (xnm_no rfl) ?_
      refine e_iconst (x := 1) rfl (by decide) (xnm_no rfl) ?_
      refine e_iload_n rfl rfl (xnm_no rfl) ?_
      refine e_ishl rfl (xnm_no rfl) ?_
      refine e_ior rfl (xnm_no rfl) ?_
      refine e_putI rfl rfl rfl rfl (xnm_no rfl) ?_
      replace h := xlt_b h
      refine e_iconst (x := 1) rfl (by decide) (xnm_no rfl) ?_
      cases h
      exact e_retI rfl (by decide)
    · refine e_iconst (x := 0) rfl (by decide) (xnm_no rfl) ?_
      cases h
      exact e_retI rfl (by decide)
set_option maxRecDepth 4000 in
theorem fX12_hold_144_i (v1 : Int32) (m : xmm) {z : Int32 × xmm} (h : ((fX12_in v1 (0 : Int32) (2 : Int32) m).bind fun (w1 : Int32 × xmm) => if w1.1 = 0 then some ((0 : Int32), w1.2) else bX12_hold_144_13 v1 (0 : Int32) w1.2) = some z) : fX12_hold_144 v1 m = some z := by
  refine xstI ?_
  show xT 187 1 0 [(0, .ref 144), (1, .int v1)] [] m (some (.int z.1), z.2)
  refine e_iload_n rfl rfl (xnm_no rfl) ?_
  refine e_iconst (x := 0) rfl (by decide) (xnm_no rfl) ?_
  refine e_iconst (x := 2) rfl (by decide) (xnm_no rfl) ?_
  obtain ⟨w1, hw2, h⟩ := xbd_some h
  refine e_cIS (hc := hw2) (rest := []) rfl rfl rfl rfl rfl rfl rfl rfl (xnm_no rfl) ?_
  refine e_if_ne (t := 11) rfl rfl (xnm_no rfl) (xnm_no rfl) h (fun h => ?_) (fun h => ?_)
  · refine e_iconst (x := 0) rfl (by decide) (xnm_no rfl) ?_
    refine e_istore_n rfl rfl rfl ?_
    exact xlfI h
  · refine e_iconst (x := 0) rfl (by decide) (xnm_no rfl) ?_
    cases h
    exact e_retI rfl (by decide)
set_option maxRecDepth 4000 in
theorem bX12_hold_144_13_i (v1 : Int32) (v2 : Int32) (m : xmm) {z : Int32 × xmm} (h : (if (9 : Int32) ≤ v2 then xgd (xinb 3 v1) (xlt (xwi m 158 (v1).toNatClampNeg (1 : Int32)) fun (m2 : xmm) => some ((1 : Int32), m2)) else xgd (xinb 9 v2) (xgd (xinb 27 (((9 : Int32) * v1) + v2)) (xlt (xwi m 157 ((((9 : Int32) * v1) + v2)).toNatClampNeg (m.1 152 (v2).toNatClampNeg)) fun (m5 : xmm) => bX12_hold_144_13 v1 (v2 + (1 : Int32)) m5))) = some z) : bX12_hold_144_13 v1 v2 m = some z := by
  refine xstI ?_
  show xT 187 1 13 [(0, .ref 144), (1, .int v1), (2, .int v2)] [] m (some (.int z.1), z.2)
  refine e_iload_n rfl rfl (xnm_no rfl) ?_
  refine e_bipush (x := 9) rfl (by decide) (xnm_no rfl) ?_
  refine e_icmp_ge (t := 42) rfl rfl (xnm_no rfl) (xnm_no rfl) h (fun h => ?_) (fun h => ?_)
  · refine e_aload_n rfl rfl rfl (xnm_no rfl) ?_
    refine e_getR (r := 158) rfl rfl rfl rfl rfl (xnm_no rfl) ?_
    refine e_iload_n rfl rfl (xnm_no rfl) ?_
    refine e_iconst (x := 1) rfl (by decide) (xnm_no rfl) ?_
    obtain ⟨g1, h⟩ := xgd_some h
    refine e_zast rfl g1 (by decide) (xnm_no rfl) ?_
    replace h := xlt_b h
    refine e_iconst (x := 1) rfl (by decide) (xnm_no rfl) ?_
    cases h
    exact e_retI rfl (by decide)
  · refine e_aload_n rfl rfl rfl (xnm_no rfl) ?_
    refine e_getR (r := 157) rfl rfl rfl rfl rfl (xnm_no rfl) ?_
    refine e_bipush (x := 9) rfl (by decide) (xnm_no rfl) ?_
    refine e_iload_n rfl rfl (xnm_no rfl) ?_
    refine e_imul rfl (xnm_no rfl) ?_
    refine e_iload_n rfl rfl (xnm_no rfl) ?_
    refine e_iadd rfl (xnm_no rfl) ?_
    refine e_aload_n rfl rfl rfl (xnm_no rfl) ?_
    refine e_getR (r := 152) rfl rfl rfl rfl rfl (xnm_no rfl) ?_
    refine e_iload_n rfl rfl (xnm_no rfl) ?_
    obtain ⟨g3, h⟩ := xgd_some h
    refine e_iald rfl g3 (xnm_no rfl) ?_
    obtain ⟨g4, h⟩ := xgd_some h
    refine e_iast rfl g4 (xnm_no rfl) ?_
    replace h := xlt_b h
    refine e_iinc (y := 1) rfl rfl rfl (by decide) (xnm_no rfl) ?_
    refine e_goto (t := 13) rfl rfl rfl ?_
    exact xlfI h
set_option maxRecDepth 4000 in
theorem fX11_restore_0_i (v1 : Int32) (m : xmm) {z : Int32 × xmm} (h : ((fX11_heldIn_0 v1 m).bind fun (w1 : Nat × xmm) => xrc w1.1 (some ((0 : Int32), w1.2)) fun k3 => xgd (!(Nat.beq k3 1999)) ((fX3_copyFrom 10 k3 w1.2).bind fun (w6 : xmm) => xlt (xwi w6 0 6 (0 : Int32)) fun (m8 : xmm) => (fX4_forget_14 m8).bind fun (w9 : xmm) => some ((1 : Int32), w9))) = some z) : fX11_restore_0 v1 m = some z := by
  refine xstI ?_
  show xT 142 2 0 [(0, .ref 0), (1, .int v1)] [] m (some (.int z.1), z.2)
  refine e_aload_n rfl rfl rfl (xnm_no rfl) ?_
  refine e_iload_n rfl rfl (xnm_no rfl) ?_
  obtain ⟨w1, hw2, h⟩ := xbd_some h
  refine e_cRV (hc := hw2) (rest := []) rfl rfl rfl rfl rfl rfl rfl rfl (xnm_no rfl) ?_
  rcases w1 with ⟨_ | k3, m4⟩
  · refine e_astore_nN rfl rfl (xnm_no rfl) ?_
    refine e_aload_nN rfl rfl (xnm_no rfl) ?_
    refine e_nonnullN rfl (xnm_no rfl) ?_
    refine e_iconst (x := 0) rfl (by decide) (xnm_no rfl) ?_
    cases h
    exact e_retI rfl (by decide)
  · obtain ⟨g5, h⟩ := xgd_some h
    refine e_astore_n rfl rfl (xnb g5) (xnm_no rfl) ?_
    refine e_aload_n rfl rfl (xnb g5) (xnm_no rfl) ?_
    refine e_nonnull (t := 12) rfl (xnb g5) rfl (xnm_no rfl) ?_
    refine e_aload_n rfl rfl rfl (xnm_no rfl) ?_
    refine e_getR (r := 10) rfl rfl rfl rfl rfl (xnm_no rfl) ?_
    refine e_aload_n rfl rfl (xnb g5) (xnm_no rfl) ?_
    obtain ⟨w6, hw7, h⟩ := xbd_some h
    refine e_cVV (hc := hw7) (rest := []) rfl rfl rfl rfl rfl rfl rfl rfl (xnm_no rfl) ?_
    refine e_aload_n rfl rfl rfl (xnm_no rfl) ?_
    refine e_iconst (x := 0) rfl (by decide) (xnm_no rfl) ?_
    refine e_putI rfl rfl (by decide) rfl (xnm_no rfl) ?_
    replace h := xlt_b h
    refine e_aload_n rfl rfl rfl (xnm_no rfl) ?_
    refine e_getR (r := 14) rfl rfl rfl rfl rfl (xnm_no rfl) ?_
    obtain ⟨w9, hw10, h⟩ := xbd_some h
    refine e_cVV (hc := hw10) (rest := []) rfl rfl rfl rfl rfl rfl rfl rfl (xnm_no rfl) ?_
    refine e_iconst (x := 1) rfl (by decide) (xnm_no rfl) ?_
    cases h
    exact e_retI rfl (by decide)
set_option maxRecDepth 4000 in
theorem fX12_restore_144_i (v1 : Int32) (m : xmm) {z : Int32 × xmm} (h : ((fX12_in v1 (0 : Int32) (2 : Int32) m).bind fun (w1 : Int32 × xmm) => if w1.1 = 0 then some ((0 : Int32), w1.2) else xgd (xinb 3 v1) (if (w1.2.1 158 (v1).toNatClampNeg) = 0 then some ((0 : Int32), w1.2) else bX12_restore_144_22 v1 (0 : Int32) w1.2)) = some z) : fX12_restore_144 v1 m = some z := by
  refine xstI ?_
  show xT 188 1 0 [(0, .ref 144), (1, .int v1)] [] m (some (.int z.1), z.2)
  refine e_iload_n rfl rfl (xnm_no rfl) ?_
  refine e_iconst (x := 0) rfl (by decide) (xnm_no rfl) ?_
  refine e_iconst (x := 2) rfl (by decide) (xnm_no rfl) ?_
  obtain ⟨w1, hw2, h⟩ := xbd_some h
  refine e_cIS (hc := hw2) (rest := []) rfl rfl rfl rfl rfl rfl rfl rfl (xnm_no rfl) ?_
  refine e_if_eq (t := 18) rfl rfl (xnm_no rfl) (xnm_no rfl) h (fun h => ?_) (fun h => ?_)
  · refine e_iconst (x := 0) rfl (by decide) (xnm_no rfl) ?_
    cases h
    exact e_retI rfl (by decide)
  · refine e_aload_n rfl rfl rfl (xnm_no rfl) ?_
    refine e_getR (r := 158) rfl rfl rfl rfl rfl (xnm_no rfl) ?_
    refine e_iload_n rfl rfl (xnm_no rfl) ?_
    obtain ⟨g3, h⟩ := xgd_some h
    refine e_bald rfl (xor2 g3) (xnm_no rfl) ?_
    refine e_if_ne (t := 20) rfl rfl (xnm_no rfl) (xnm_no rfl) h (fun h => ?_) (fun h => ?_)
    · refine e_iconst (x := 0) rfl (by decide) (xnm_no rfl) ?_
      refine e_istore_n rfl rfl rfl ?_
      exact xlfI h
    · refine e_iconst (x := 0) rfl (by decide) (xnm_no rfl) ?_
      cases h
      exact e_retI rfl (by decide)
set_option maxRecDepth 4000 in
theorem bX12_restore_144_22_i (v1 : Int32) (v2 : Int32) (m : xmm) {z : Int32 × xmm} (h : (if (9 : Int32) ≤ v2 then xlt (xwi m 144 25 (0 : Int32)) fun (m1 : xmm) => some ((1 : Int32), m1) else xgd (xinb 27 (((9 : Int32) * v1) + v2)) (xgd (xinb 9 v2) (xlt (xwi m 152 (v2).toNatClampNeg (m.1 157 ((((9 : Int32) * v1) + v2)).toNatClampNeg)) fun (m4 : xmm) => bX12_restore_144_22 v1 (v2 + (1 : Int32)) m4))) = some z) : bX12_restore_144_22 v1 v2 m = some z := by
  refine xstI ?_
  show xT 188 1 22 [(0, .ref 144), (1, .int v1), (2, .int v2)] [] m (some (.int z.1), z.2)
  refine e_iload_n rfl rfl (xnm_no rfl) ?_
  refine e_bipush (x := 9) rfl (by decide) (xnm_no rfl) ?_
  refine e_icmp_ge (t := 51) rfl rfl (xnm_no rfl) (xnm_no rfl) h (fun h => ?_) (fun h => ?_)
  · refine e_aload_n rfl rfl rfl (xnm_no rfl) ?_
    refine e_iconst (x := 0) rfl (by decide) (xnm_no rfl) ?_
    refine e_putI rfl rfl rfl rfl (xnm_no rfl) ?_
    replace h := xlt_b h
    refine e_iconst (x := 1) rfl (by decide) (xnm_no rfl) ?_
    cases h
    exact e_retI rfl (by decide)
  · refine e_aload_n rfl rfl rfl (xnm_no rfl) ?_
    refine e_getR (r := 152) rfl rfl rfl rfl rfl (xnm_no rfl) ?_
    refine e_iload_n rfl rfl (xnm_no rfl) ?_
    refine e_aload_n rfl rfl rfl (xnm_no rfl) ?_
    refine e_getR (r := 157) rfl rfl rfl rfl rfl (xnm_no rfl) ?_
    refine e_bipush (x := 9) rfl (by decide) (xnm_no rfl) ?_
    refine e_iload_n rfl rfl (xnm_no rfl) ?_
    refine e_imul rfl (xnm_no rfl) ?_
    refine e_iload_n rfl rfl (xnm_no rfl) ?_
    refine e_iadd rfl (xnm_no rfl) ?_
    obtain ⟨g2, h⟩ := xgd_some h
    refine e_iald rfl g2 (xnm_no rfl) ?_
    obtain ⟨g3, h⟩ := xgd_some h
    refine e_iast rfl g3 (xnm_no rfl) ?_
    replace h := xlt_b h
    refine e_iinc (y := 1) rfl rfl rfl (by decide) (xnm_no rfl) ?_
    refine e_goto (t := 22) rfl rfl rfl ?_
    exact xlfI h
set_option maxRecDepth 4000 in
theorem fX9_countAlike_i (v0 : Nat) (v1 : Int32) (m : xmm) {z : Int32 × xmm} (h : (bX9_countAlike_4 v0 v1 (0 : Int32) (1 : Int32) m) = some z) : fX9_countAlike v0 v1 m = some z := by
  refine xstI ?_
  show xT 105 2 0 [(0, .ref v0), (1, .int v1)] [] m (some (.int z.1), z.2)
  refine e_iconst (x := 0) rfl (by decide) (xnm_no rfl) ?_
  refine e_istore_n rfl rfl (xnm_no rfl) ?_
  refine e_iconst (x := 1) rfl (by decide) (xnm_no rfl) ?_
  refine e_istore_n rfl rfl rfl ?_
  exact xlfI h
set_option maxRecDepth 4000 in
theorem bX9_countAlike_4_i (v0 : Nat) (v1 : Int32) (v2 : Int32) (v3 : Int32) (m : xmm) {z : Int32 × xmm} (h : (if v1 < v3 then some (v2, m) else if (256 : Int32) ≤ v3 then some (v2, m) else xgd (!(Nat.beq v0 1999)) ((fX9_isAlike v0 v3 v1 m).bind fun (w2 : Int32 × xmm) => (fX11_bit w2.1 w2.2).bind fun (w4 : Int32 × xmm) => bX9_countAlike_4 v0 v1 (v2 + w4.1) (v3 + (1 : Int32)) w4.2)) = some z) : bX9_countAlike_4 v0 v1 v2 v3 m = some z := by
  refine xstI ?_
  show xT 105 2 4 [(0, .ref v0), (1, .int v1), (2, .int v2), (3, .int v3)] [] m (some (.int z.1), z.2)
  refine e_iload_n rfl rfl (xnm_no rfl) ?_
  refine e_iload_n rfl rfl (xnm_no rfl) ?_
  refine e_icmp_gt (t := 34) rfl rfl (xnm_no rfl) (xnm_no rfl) h (fun h => ?_) (fun h => ?_)
  · refine e_iload_n rfl rfl (xnm_no rfl) ?_
    cases h
    exact e_retI rfl rfl
  · refine e_iload_n rfl rfl (xnm_no rfl) ?_
    refine e_sipush (x := 256) rfl (by decide) (xnm_no rfl) ?_
    refine e_icmp_ge (t := 34) rfl rfl (xnm_no rfl) (xnm_no rfl) h (fun h => ?_) (fun h => ?_)
    · refine e_iload_n rfl rfl (xnm_no rfl) ?_
      cases h
      exact e_retI rfl rfl
    · refine e_iload_n rfl rfl (xnm_no rfl) ?_
      obtain ⟨g1, h⟩ := xgd_some h
      refine e_aload_n rfl rfl (xnb g1) (xnm_no rfl) ?_
      refine e_iload_n rfl rfl (xnm_no rfl) ?_
      refine e_iload_n rfl rfl (xnm_no rfl) ?_
      obtain ⟨w2, hw3, h⟩ := xbd_some h
      refine e_cIS (hc := hw3) (rest := [.int _]) rfl rfl rfl rfl rfl rfl rfl rfl (xnm_no rfl) ?_
      obtain ⟨w4, hw5, h⟩ := xbd_some h
      refine e_cIS (hc := hw5) (rest := [.int _]) rfl rfl rfl rfl rfl rfl rfl rfl (xnm_no rfl) ?_
      refine e_iadd rfl (xnm_no rfl) ?_
      refine e_istore_n rfl rfl (xnm_no rfl) ?_
      refine e_iinc (y := 1) rfl rfl rfl (by decide) (xnm_no rfl) ?_
      refine e_goto (t := 4) rfl rfl rfl ?_
      exact xlfI h
set_option maxRecDepth 4000 in
theorem fX9_countRounds_i (v0 : Nat) (v1 : Int32) (m : xmm) {z : Int32 × xmm} (h : (bX9_countRounds_4 v0 v1 (0 : Int32) (1 : Int32) m) = some z) : fX9_countRounds v0 v1 m = some z := by
  refine xstI ?_
  show xT 106 5 0 [(0, .ref v0), (1, .int v1)] [] m (some (.int z.1), z.2)
  refine e_iconst (x := 0) rfl (by decide) (xnm_no rfl) ?_
  refine e_istore_n rfl rfl (xnm_no rfl) ?_
  refine e_iconst (x := 1) rfl (by decide) (xnm_no rfl) ?_
  refine e_istore_n rfl rfl rfl ?_
  exact xlfI h
set_option maxRecDepth 4000 in
theorem bX9_countRounds_4_i (v0 : Nat) (v1 : Int32) (v2 : Int32) (v3 : Int32) (m : xmm) {z : Int32 × xmm} (h : (if v1 < v3 then some (v2, m) else if (256 : Int32) ≤ v3 then some (v2, m) else xgd (!(Nat.beq v0 1999)) ((fX9_isRound v0 v3 m).bind fun (w2 : Int32 × xmm) => (fX11_bit w2.1 w2.2).bind fun (w4 : Int32 × xmm) => bX9_countRounds_4 v0 v1 (v2 + w4.1) (v3 + (1 : Int32)) w4.2)) = some z) : bX9_countRounds_4 v0 v1 v2 v3 m = some z := by
  refine xstI ?_
  show xT 106 5 4 [(0, .ref v0), (1, .int v1), (2, .int v2), (3, .int v3)] [] m (some (.int z.1), z.2)
  refine e_iload_n rfl rfl (xnm_no rfl) ?_
  refine e_iload_n rfl rfl (xnm_no rfl) ?_
  refine e_icmp_gt (t := 33) rfl rfl (xnm_no rfl) (xnm_no rfl) h (fun h => ?_) (fun h => ?_)
  · refine e_iload_n rfl rfl (xnm_no rfl) ?_
    cases h
    exact e_retI rfl rfl
  · refine e_iload_n rfl rfl (xnm_no rfl) ?_
    refine e_sipush (x := 256) rfl (by decide) (xnm_no rfl) ?_
    refine e_icmp_ge (t := 33) rfl rfl (xnm_no rfl) (xnm_no rfl) h (fun h => ?_) (fun h => ?_)
    · refine e_iload_n rfl rfl (xnm_no rfl) ?_
      cases h
      exact e_retI rfl rfl
    · refine e_iload_n rfl rfl (xnm_no rfl) ?_
      obtain ⟨g1, h⟩ := xgd_some h
      refine e_aload_n rfl rfl (xnb g1) (xnm_no rfl) ?_
      refine e_iload_n rfl rfl (xnm_no rfl) ?_
      obtain ⟨w2, hw3, h⟩ := xbd_some h
      refine e_cIS (hc := hw3) (rest := [.int _]) rfl rfl rfl rfl rfl rfl rfl rfl (xnm_no rfl) ?_
      obtain ⟨w4, hw5, h⟩ := xbd_some h
      refine e_cIS (hc := hw5) (rest := [.int _]) rfl rfl rfl rfl rfl rfl rfl rfl (xnm_no rfl) ?_
      refine e_iadd rfl (xnm_no rfl) ?_
      refine e_istore_n rfl rfl (xnm_no rfl) ?_
      refine e_iinc (y := 1) rfl rfl rfl (by decide) (xnm_no rfl) ?_
      refine e_goto (t := 4) rfl rfl rfl ?_
      exact xlfI h
set_option maxRecDepth 4000 in
theorem fX9_countApart_i (v0 : Nat) (v1 : Int32) (m : xmm) {z : Int32 × xmm} (h : (bX9_countApart_4 v0 v1 (0 : Int32) (1 : Int32) m) = some z) : fX9_countApart v0 v1 m = some z := by
  refine xstI ?_
  show xT 104 3 0 [(0, .ref v0), (1, .int v1)] [] m (some (.int z.1), z.2)
  refine e_iconst (x := 0) rfl (by decide) (xnm_no rfl) ?_
  refine e_istore_n rfl rfl (xnm_no rfl) ?_
  refine e_iconst (x := 1) rfl (by decide) (xnm_no rfl) ?_
  refine e_istore_n rfl rfl rfl ?_
  exact xlfI h
set_option maxRecDepth 4000 in
theorem bX9_countApart_4_i (v0 : Nat) (v1 : Int32) (v2 : Int32) (v3 : Int32) (m : xmm) {z : Int32 × xmm} (h : (if v1 < v3 then some (v2, m) else if (256 : Int32) ≤ v3 then some (v2, m) else xgd (!(Nat.beq v0 1999)) ((fX9_isApart v0 v3 m).bind fun (w2 : Int32 × xmm) => (fX11_bit w2.1 w2.2).bind fun (w4 : Int32 × xmm) => bX9_countApart_4 v0 v1 (v2 + w4.1) (v3 + (1 : Int32)) w4.2)) = some z) : bX9_countApart_4 v0 v1 v2 v3 m = some z := by
  refine xstI ?_
  show xT 104 3 4 [(0, .ref v0), (1, .int v1), (2, .int v2), (3, .int v3)] [] m (some (.int z.1), z.2)
  refine e_iload_n rfl rfl (xnm_no rfl) ?_
  refine e_iload_n rfl rfl (xnm_no rfl) ?_
  refine e_icmp_gt (t := 33) rfl rfl (xnm_no rfl) (xnm_no rfl) h (fun h => ?_) (fun h => ?_)
  · refine e_iload_n rfl rfl (xnm_no rfl) ?_
    cases h
    exact e_retI rfl rfl
  · refine e_iload_n rfl rfl (xnm_no rfl) ?_
    refine e_sipush (x := 256) rfl (by decide) (xnm_no rfl) ?_
    refine e_icmp_ge (t := 33) rfl rfl (xnm_no rfl) (xnm_no rfl) h (fun h => ?_) (fun h => ?_)
    · refine e_iload_n rfl rfl (xnm_no rfl) ?_
      cases h
      exact e_retI rfl rfl
    · refine e_iload_n rfl rfl (xnm_no rfl) ?_
      obtain ⟨g1, h⟩ := xgd_some h
      refine e_aload_n rfl rfl (xnb g1) (xnm_no rfl) ?_
      refine e_iload_n rfl rfl (xnm_no rfl) ?_
      obtain ⟨w2, hw3, h⟩ := xbd_some h
      refine e_cIS (hc := hw3) (rest := [.int _]) rfl rfl rfl rfl rfl rfl rfl rfl (xnm_no rfl) ?_
      obtain ⟨w4, hw5, h⟩ := xbd_some h
      refine e_cIS (hc := hw5) (rest := [.int _]) rfl rfl rfl rfl rfl rfl rfl rfl (xnm_no rfl) ?_
      refine e_iadd rfl (xnm_no rfl) ?_
      refine e_istore_n rfl rfl (xnm_no rfl) ?_
      refine e_iinc (y := 1) rfl rfl rfl (by decide) (xnm_no rfl) ?_
      refine e_goto (t := 4) rfl rfl rfl ?_
      exact xlfI h
set_option maxRecDepth 4000 in
theorem fX8_ways_136_10_10_i (m : xmm) {z : Int32 × xmm} (h : (xlt (if (8 : Int32) < (m.1 10 0) then (8 : Int32) else (m.1 10 0)) fun (x1 : Int32) => if (m.1 10 0) = (m.1 10 0) then xgd (xcg 93 13 96 [.ref 11, .ref 11, .ref 137, .int (0 : Int32), .int x1, .int (0 : Int32)] []) ((fX8_canSend 11 11 137 (0 : Int32) x1 (0 : Int32) m).bind fun (w2 : Int32 × xmm) => if w2.1 = 0 then some ((0 : Int32), w2.2) else (fX8_waysToItself_136 11 x1 w2.2).bind fun (w5 : Int32 × xmm) => some (w5.1, w5.2)) else some ((0 : Int32), m)) = some z) : fX8_ways_136_10_10 m = some z := by
  refine xstI ?_
  show xT 93 13 0 [(0, .ref 136), (1, .ref 10), (2, .ref 10)] [] m (some (.int z.1), z.2)
  refine e_aload_n rfl rfl rfl (xnm_no rfl) ?_
  refine e_getI rfl rfl rfl rfl (xnm_no rfl) ?_
  refine e_bipush (x := 8) rfl (by decide) (xnm_no rfl) ?_
  refine e_min rfl rfl rfl (xnm_no rfl) ?_
  replace h := xlt_b h
  refine e_istore_n rfl rfl (xnm_no rfl) ?_
  refine e_aload_n rfl rfl rfl (xnm_no rfl) ?_
  refine e_getI rfl rfl rfl rfl (xnm_no rfl) ?_
  refine e_aload_n rfl rfl rfl (xnm_no rfl) ?_
  refine e_getI rfl rfl rfl rfl (xnm_no rfl) ?_
  refine e_icmp_ne (t := 42) rfl rfl (xnm_no rfl) (xnm_no rfl) h (fun h => ?_) (fun h => ?_)
  · refine e_iconst (x := 0) rfl (by decide) (xnm_no rfl) ?_
    cases h
    exact e_retI rfl rfl
  · refine e_aload_n rfl rfl rfl (xnm_no rfl) ?_
    refine e_getR (r := 11) rfl rfl rfl rfl rfl (xnm_no rfl) ?_
    refine e_aload_n rfl rfl rfl (xnm_no rfl) ?_
    refine e_getR (r := 11) rfl rfl rfl rfl rfl (xnm_no rfl) ?_
    refine e_aload_n rfl rfl rfl (xnm_no rfl) ?_
    refine e_getR (r := 137) rfl rfl rfl rfl rfl (xnm_no rfl) ?_
    refine e_iconst (x := 0) rfl (by decide) (xnm_no rfl) ?_
    refine e_iload_n rfl rfl (xnm_no rfl) ?_
    refine e_iconst (x := 0) rfl (by decide) (xnm_no rfl) ?_
    obtain ⟨g4, h⟩ := xgd_some h
    obtain ⟨w2, hw3, h⟩ := xbd_some h
    refine e_cIS (hc := hw3) (rest := []) rfl rfl rfl rfl rfl rfl g4 rfl (xnm_no rfl) ?_
    refine e_if_ne (t := 44) rfl rfl (xnm_no rfl) (xnm_no rfl) h (fun h => ?_) (fun h => ?_)
    · refine e_aload_n rfl rfl rfl (xnm_no rfl) ?_
      refine e_aload_n rfl rfl rfl (xnm_no rfl) ?_
      refine e_getR (r := 11) rfl rfl rfl rfl rfl (xnm_no rfl) ?_
      refine e_iload_n rfl rfl (xnm_no rfl) ?_
      obtain ⟨w5, hw6, h⟩ := xbd_some h
      refine e_cIV (hc := hw6) (rest := []) rfl rfl rfl rfl rfl rfl rfl rfl (xnm_no rfl) ?_
      cases h
      exact e_retI rfl rfl
    · refine e_iconst (x := 0) rfl (by decide) (xnm_no rfl) ?_
      cases h
      exact e_retI rfl rfl
set_option maxRecDepth 4000 in
theorem fX11_count_0_i (v1 : Int32) (m : xmm) {z : Int32 × xmm} (h : ((fX11_study_0 m).bind fun (w1 : xmm) => (fX3_everyPost 10 w1).bind fun (w3 : Int32 × xmm) => if v1 = 0 then some ((w3.2.1 10 0), w3.2) else if v1 = 1 then (fX3_countLines 10 w3.2).bind fun (w7 : Int32 × xmm) => some (w7.1, w7.2) else if v1 = 2 then (fX9_countAlike 11 w3.1 w3.2).bind fun (w10 : Int32 × xmm) => some (w10.1, w10.2) else if v1 = 3 then (fX9_countRounds 11 w3.1 w3.2).bind fun (w13 : Int32 × xmm) => some (w13.1, w13.2) else if v1 = 4 then (fX9_countApart 13 w3.1 w3.2).bind fun (w16 : Int32 × xmm) => some (w16.1, w16.2) else if v1 = 5 then (fX9_countApart 11 w3.1 w3.2).bind fun (w19 : Int32 × xmm) => some (w19.1, w19.2) else if v1 = 6 then (fX8_ways_136_10_10 w3.2).bind fun (w22 : Int32 × xmm) => some (w22.1, w22.2) else if v1 = 7 then (fX11_bit (w3.2.1 10 1) w3.2).bind fun (w25 : Int32 × xmm) => some (w25.1, w25.2) else if v1 = 8 then some ((w3.2.1 1 1), w3.2) else if v1 = 9 then some ((w3.2.1 14 2), w3.2) else if v1 = 10 then (fJ6_bitCount (w3.2.1 0 5) w3.2).bind fun (w30 : Int32 × xmm) => some (w30.1, w30.2) else some ((-1 : Int32), w3.2)) = some z) : fX11_count_0 v1 m = some z := by
  refine xstI ?_
  show xT 143 14 0 [(0, .ref 0), (1, .int v1)] [] m (some (.int z.1), z.2)
  refine e_aload_n rfl rfl rfl (xnm_no rfl) ?_
  obtain ⟨w1, hw2, h⟩ := xbd_some h
  refine e_cVV (hc := hw2) (rest := []) rfl rfl rfl rfl rfl rfl rfl rfl (xnm_no rfl) ?_
  refine e_aload_n rfl rfl rfl (xnm_no rfl) ?_
  refine e_getR (r := 10) rfl rfl rfl rfl rfl (xnm_no rfl) ?_
  obtain ⟨w3, hw4, h⟩ := xbd_some h
  refine e_cIV (hc := hw4) (rest := []) rfl rfl rfl rfl rfl rfl rfl rfl (xnm_no rfl) ?_
  refine e_istore_n rfl rfl (xnm_no rfl) ?_
  refine e_iload_n rfl rfl (xnm_no rfl) ?_
  by_cases c5 : v1 = 0
  · rw [if_pos c5] at h
    refine e_sw (t := 72) (o := 59) rfl (by decide) (xsw_p c5) rfl (xnm_no rfl) ?_
    refine e_aload_n rfl rfl rfl (xnm_no rfl) ?_
    refine e_getR (r := 10) rfl rfl rfl rfl rfl (xnm_no rfl) ?_
    refine e_getI rfl rfl rfl rfl (xnm_no rfl) ?_
    cases h
    exact e_retI rfl rfl
  · rw [if_neg c5] at h
    by_cases c6 : v1 = 1
    · rw [if_pos c6] at h
      refine e_sw (t := 80) (o := 67) rfl (by decide) (xsw_n c5 (xsw_p c6)) rfl (xnm_no rfl) ?_
      refine e_aload_n rfl rfl rfl (xnm_no rfl) ?_
      refine e_getR (r := 10) rfl rfl rfl rfl rfl (xnm_no rfl) ?_
      obtain ⟨w7, hw8, h⟩ := xbd_some h
      refine e_cIV (hc := hw8) (rest := []) rfl rfl rfl rfl rfl rfl rfl rfl (xnm_no rfl) ?_
      cases h
      exact e_retI rfl rfl
    · rw [if_neg c6] at h
      by_cases c9 : v1 = 2
      · rw [if_pos c9] at h
        refine e_sw (t := 88) (o := 75) rfl (by decide) (xsw_n c5 (xsw_n c6 (xsw_p c9))) rfl (xnm_no rfl) ?_
        refine e_aload_n rfl rfl rfl (xnm_no rfl) ?_
        refine e_getR (r := 10) rfl rfl rfl rfl rfl (xnm_no rfl) ?_
        refine e_getR (r := 11) rfl rfl rfl rfl rfl (xnm_no rfl) ?_
        refine e_iload_n rfl rfl (xnm_no rfl) ?_
        obtain ⟨w10, hw11, h⟩ := xbd_some h
        refine e_cIS (hc := hw11) (rest := []) rfl rfl rfl rfl rfl rfl rfl rfl (xnm_no rfl) ?_
        cases h
        exact e_retI rfl rfl
      · rw [if_neg c9] at h
        by_cases c12 : v1 = 3
        · rw [if_pos c12] at h
          refine e_sw (t := 100) (o := 87) rfl (by decide) (xsw_n c5 (xsw_n c6 (xsw_n c9 (xsw_p c12)))) rfl (xnm_no rfl) ?_
          refine e_aload_n rfl rfl rfl (xnm_no rfl) ?_
          refine e_getR (r := 10) rfl rfl rfl rfl rfl (xnm_no rfl) ?_
          refine e_getR (r := 11) rfl rfl rfl rfl rfl (xnm_no rfl) ?_
          refine e_iload_n rfl rfl (xnm_no rfl) ?_
          obtain ⟨w13, hw14, h⟩ := xbd_some h
          refine e_cIS (hc := hw14) (rest := []) rfl rfl rfl rfl rfl rfl rfl rfl (xnm_no rfl) ?_
          cases h
          exact e_retI rfl rfl
        · rw [if_neg c12] at h
          by_cases c15 : v1 = 4
          · rw [if_pos c15] at h
            refine e_sw (t := 112) (o := 99) rfl (by decide) (xsw_n c5 (xsw_n c6 (xsw_n c9 (xsw_n c12 (xsw_p c15))))) rfl (xnm_no rfl) ?_
            refine e_aload_n rfl rfl rfl (xnm_no rfl) ?_
            refine e_getR (r := 12) rfl rfl rfl rfl rfl (xnm_no rfl) ?_
            refine e_getR (r := 13) rfl rfl rfl rfl rfl (xnm_no rfl) ?_
            refine e_iload_n rfl rfl (xnm_no rfl) ?_
            obtain ⟨w16, hw17, h⟩ := xbd_some h
            refine e_cIS (hc := hw17) (rest := []) rfl rfl rfl rfl rfl rfl rfl rfl (xnm_no rfl) ?_
            cases h
            exact e_retI rfl rfl
          · rw [if_neg c15] at h
            by_cases c18 : v1 = 5
            · rw [if_pos c18] at h
              refine e_sw (t := 124) (o := 111) rfl (by decide) (xsw_n c5 (xsw_n c6 (xsw_n c9 (xsw_n c12 (xsw_n c15 (xsw_p c18)))))) rfl (xnm_no rfl) ?_
              refine e_aload_n rfl rfl rfl (xnm_no rfl) ?_
              refine e_getR (r := 10) rfl rfl rfl rfl rfl (xnm_no rfl) ?_
              refine e_getR (r := 11) rfl rfl rfl rfl rfl (xnm_no rfl) ?_
              refine e_iload_n rfl rfl (xnm_no rfl) ?_
              obtain ⟨w19, hw20, h⟩ := xbd_some h
              refine e_cIS (hc := hw20) (rest := []) rfl rfl rfl rfl rfl rfl rfl rfl (xnm_no rfl) ?_
              cases h
              exact e_retI rfl rfl
            · rw [if_neg c18] at h
              by_cases c21 : v1 = 6
              · rw [if_pos c21] at h
                refine e_sw (t := 136) (o := 123) rfl (by decide) (xsw_n c5 (xsw_n c6 (xsw_n c9 (xsw_n c12 (xsw_n c15 (xsw_n c18 (xsw_p c21))))))) rfl (xnm_no rfl) ?_
                refine e_aload_n rfl rfl rfl (xnm_no rfl) ?_
                refine e_getR (r := 136) rfl rfl rfl rfl rfl (xnm_no rfl) ?_
                refine e_aload_n rfl rfl rfl (xnm_no rfl) ?_
                refine e_getR (r := 10) rfl rfl rfl rfl rfl (xnm_no rfl) ?_
                refine e_aload_n rfl rfl rfl (xnm_no rfl) ?_
                refine e_getR (r := 10) rfl rfl rfl rfl rfl (xnm_no rfl) ?_
                obtain ⟨w22, hw23, h⟩ := xbd_some h
                refine e_cIV (hc := hw23) (rest := []) rfl rfl rfl rfl rfl rfl rfl rfl (xnm_no rfl) ?_
                cases h
                exact e_retI rfl rfl
              · rw [if_neg c21] at h
                by_cases c24 : v1 = 7
                · rw [if_pos c24] at h
                  refine e_sw (t := 152) (o := 139) rfl (by decide) (xsw_n c5 (xsw_n c6 (xsw_n c9 (xsw_n c12 (xsw_n c15 (xsw_n c18 (xsw_n c21 (xsw_p c24)))))))) rfl (xnm_no rfl) ?_
                  refine e_aload_n rfl rfl rfl (xnm_no rfl) ?_
                  refine e_getR (r := 10) rfl rfl rfl rfl rfl (xnm_no rfl) ?_
                  refine e_getI rfl rfl rfl rfl (xnm_no rfl) ?_
                  obtain ⟨w25, hw26, h⟩ := xbd_some h
                  refine e_cIS (hc := hw26) (rest := []) rfl rfl rfl rfl rfl rfl rfl rfl (xnm_no rfl) ?_
                  cases h
                  exact e_retI rfl rfl
                · rw [if_neg c24] at h
                  by_cases c27 : v1 = 8
                  · rw [if_pos c27] at h
                    refine e_sw (t := 163) (o := 150) rfl (by decide) (xsw_n c5 (xsw_n c6 (xsw_n c9 (xsw_n c12 (xsw_n c15 (xsw_n c18 (xsw_n c21 (xsw_n c24 (xsw_p c27))))))))) rfl (xnm_no rfl) ?_
                    refine e_aload_n rfl rfl rfl (xnm_no rfl) ?_
                    refine e_getR (r := 1) rfl rfl rfl rfl rfl (xnm_no rfl) ?_
                    refine e_getI rfl rfl rfl rfl (xnm_no rfl) ?_
                    cases h
                    exact e_retI rfl rfl
                  · rw [if_neg c27] at h
                    by_cases c28 : v1 = 9
                    · rw [if_pos c28] at h
                      refine e_sw (t := 171) (o := 158) rfl (by decide) (xsw_n c5 (xsw_n c6 (xsw_n c9 (xsw_n c12 (xsw_n c15 (xsw_n c18 (xsw_n c21 (xsw_n c24 (xsw_n c27 (xsw_p c28)))))))))) rfl (xnm_no rfl) ?_
                      refine e_aload_n rfl rfl rfl (xnm_no rfl) ?_
                      refine e_getR (r := 14) rfl rfl rfl rfl rfl (xnm_no rfl) ?_
                      refine e_getI rfl rfl rfl rfl (xnm_no rfl) ?_
                      cases h
                      exact e_retI rfl rfl
                    · rw [if_neg c28] at h
                      by_cases c29 : v1 = 10
                      · rw [if_pos c29] at h
                        refine e_sw (t := 179) (o := 166) rfl (by decide) (xsw_n c5 (xsw_n c6 (xsw_n c9 (xsw_n c12 (xsw_n c15 (xsw_n c18 (xsw_n c21 (xsw_n c24 (xsw_n c27 (xsw_n c28 (xsw_p c29))))))))))) rfl (xnm_no rfl) ?_
                        refine e_aload_n rfl rfl rfl (xnm_no rfl) ?_
                        refine e_getI rfl rfl rfl rfl (xnm_no rfl) ?_
                        obtain ⟨w30, hw31, h⟩ := xbd_some h
                        refine e_cIS (hc := hw31) (rest := []) rfl rfl rfl rfl rfl rfl rfl rfl (xnm_no rfl) ?_
                        cases h
                        exact e_retI rfl rfl
                      · rw [if_neg c29] at h
                        refine e_sw (t := 187) (o := 174) rfl (by decide) (xsw_n c5 (xsw_n c6 (xsw_n c9 (xsw_n c12 (xsw_n c15 (xsw_n c18 (xsw_n c21 (xsw_n c24 (xsw_n c27 (xsw_n c28 (xsw_n c29 xsw_d))))))))))) rfl (xnm_no rfl) ?_
                        refine e_iconst (x := -1) rfl (by decide) (xnm_no rfl) ?_
                        cases h
                        exact e_retI rfl rfl
set_option maxRecDepth 4000 in
theorem fX12_suchMany_144_i (v1 : Int32) (m : xmm) {z : Int32 × xmm} (h : (bX12_suchMany_144_4 v1 (0 : Int32) (1 : Int32) m) = some z) : fX12_suchMany_144 v1 m = some z := by
  refine xstI ?_
  show xT 245 4 0 [(0, .ref 144), (1, .int v1)] [] m (some (.int z.1), z.2)
  refine e_iconst (x := 0) rfl (by decide) (xnm_no rfl) ?_
  refine e_istore_n rfl rfl (xnm_no rfl) ?_
  refine e_iconst (x := 1) rfl (by decide) (xnm_no rfl) ?_
  refine e_istore_n rfl rfl rfl ?_
  exact xlfI h
set_option maxRecDepth 4000 in
theorem bX12_suchMany_144_4_i (v1 : Int32) (v2 : Int32) (v3 : Int32) (m : xmm) {z : Int32 × xmm} (h : (if ((1 : Int32) <<< ((m.1 144 17) &&& 31)) ≤ v3 then some (v2, m) else (fX12_isSuch_144 v3 v1 m).bind fun (w1 : Int32 × xmm) => if w1.1 = 0 then bX12_suchMany_144_4 v1 v2 (v3 + (1 : Int32)) w1.2 else bX12_suchMany_144_4 v1 (v2 + (1 : Int32)) (v3 + (1 : Int32)) w1.2) = some z) : bX12_suchMany_144_4 v1 v2 v3 m = some z := by
  refine xstI ?_
  show xT 245 4 4 [(0, .ref 144), (1, .int v1), (2, .int v2), (3, .int v3)] [] m (some (.int z.1), z.2)
  refine e_iload_n rfl rfl (xnm_no rfl) ?_
  refine e_iconst (x := 1) rfl (by decide) (xnm_no rfl) ?_
  refine e_aload_n rfl rfl rfl (xnm_no rfl) ?_
  refine e_getI rfl rfl rfl rfl (xnm_no rfl) ?_
  refine e_ishl rfl (xnm_no rfl) ?_
  refine e_icmp_ge (t := 32) rfl rfl (xnm_no rfl) (xnm_no rfl) h (fun h => ?_) (fun h => ?_)
  · refine e_iload_n rfl rfl (xnm_no rfl) ?_
    cases h
    exact e_retI rfl rfl
  · refine e_aload_n rfl rfl rfl (xnm_no rfl) ?_
    refine e_iload_n rfl rfl (xnm_no rfl) ?_
    refine e_iload_n rfl rfl (xnm_no rfl) ?_
    obtain ⟨w1, hw2, h⟩ := xbd_some h
    refine e_cIV (hc := hw2) (rest := []) rfl rfl rfl rfl rfl rfl rfl rfl (xnm_no rfl) ?_
    refine e_if_eq (t := 26) rfl rfl (xnm_no rfl) (xnm_no rfl) h (fun h => ?_) (fun h => ?_)
    · refine e_iinc (y := 1) rfl rfl rfl (by decide) (xnm_no rfl) ?_
      refine e_goto (t := 4) rfl rfl rfl ?_
      exact xlfI h
    · refine e_iinc (y := 1) rfl rfl rfl (by decide) (xnm_no rfl) ?_
      refine e_iinc (y := 1) rfl rfl rfl (by decide) (xnm_no rfl) ?_
      refine e_goto (t := 4) rfl rfl rfl ?_
      exact xlfI h
set_option maxRecDepth 4000 in
theorem fX12_likeItself_144_i (m : xmm) {z : Int32 × xmm} (h : ((fX12_copies 152 183 m).bind fun (w1 : xmm) => (fX12_likes_144 w1).bind fun (w3 : Int32 × xmm) => some (w3.1, w3.2)) = some z) : fX12_likeItself_144 m = some z := by
  refine xstI ?_
  show xT 254 3 0 [(0, .ref 144)] [] m (some (.int z.1), z.2)
  refine e_aload_n rfl rfl rfl (xnm_no rfl) ?_
  refine e_getR (r := 152) rfl rfl rfl rfl rfl (xnm_no rfl) ?_
  refine e_aload_n rfl rfl rfl (xnm_no rfl) ?_
  refine e_getR (r := 183) rfl rfl rfl rfl rfl (xnm_no rfl) ?_
  obtain ⟨w1, hw2, h⟩ := xbd_some h
  refine e_cVS (hc := hw2) (rest := []) rfl rfl rfl rfl rfl rfl rfl rfl (xnm_no rfl) ?_
  refine e_aload_n rfl rfl rfl (xnm_no rfl) ?_
  obtain ⟨w3, hw4, h⟩ := xbd_some h
  refine e_cIV (hc := hw4) (rest := []) rfl rfl rfl rfl rfl rfl rfl rfl (xnm_no rfl) ?_
  cases h
  exact e_retI rfl rfl
set_option maxRecDepth 4000 in
theorem fX12_count_144_i (v1 : Int32) (m : xmm) {z : Int32 × xmm} (h : (if v1 = 0 then some ((m.1 144 17), m) else if v1 = 1 then (fX12_lineMany_144 m).bind fun (w3 : Int32 × xmm) => some (w3.1, w3.2) else if v1 = 2 then (fX12_suchMany_144 (2 : Int32) m).bind fun (w6 : Int32 × xmm) => some (w6.1, w6.2) else if v1 = 3 then (fX12_suchMany_144 (3 : Int32) m).bind fun (w9 : Int32 × xmm) => some (w9.1, w9.2) else if v1 = 4 then (fX12_suchMany_144 (0 : Int32) m).bind fun (w12 : Int32 × xmm) => some (w12.1, w12.2) else if v1 = 5 then (fX12_suchMany_144 (1 : Int32) m).bind fun (w15 : Int32 × xmm) => some (w15.1, w15.2) else if v1 = 6 then (fX12_likeItself_144 m).bind fun (w18 : Int32 × xmm) => some (w18.1, w18.2) else if v1 = 7 then some ((m.1 152 8), m) else if v1 = 8 then some ((m.1 144 2), m) else if v1 = 9 then some ((m.1 144 25), m) else if v1 = 10 then if (m.1 158 0) = 0 then bX12_count_144_131 (0 : Int32) m else bX12_count_144_131 (1 : Int32) m else some ((-1 : Int32), m)) = some z) : fX12_count_144 v1 m = some z := by
  refine xstI ?_
  show xT 255 5 0 [(0, .ref 144), (1, .int v1)] [] m (some (.int z.1), z.2)
  refine e_iload_n rfl rfl (xnm_no rfl) ?_
  by_cases c1 : v1 = 0
  · rw [if_pos c1] at h
    refine e_sw (t := 60) (o := 59) rfl (by decide) (xsw_p c1) rfl (xnm_no rfl) ?_
    refine e_aload_n rfl rfl rfl (xnm_no rfl) ?_
    refine e_getI rfl rfl rfl rfl (xnm_no rfl) ?_
    cases h
    exact e_retI rfl rfl
  · rw [if_neg c1] at h
    by_cases c2 : v1 = 1
    · rw [if_pos c2] at h
      refine e_sw (t := 65) (o := 64) rfl (by decide) (xsw_n c1 (xsw_p c2)) rfl (xnm_no rfl) ?_
      refine e_aload_n rfl rfl rfl (xnm_no rfl) ?_
      obtain ⟨w3, hw4, h⟩ := xbd_some h
      refine e_cIV (hc := hw4) (rest := []) rfl rfl rfl rfl rfl rfl rfl rfl (xnm_no rfl) ?_
      cases h
      exact e_retI rfl rfl
    · rw [if_neg c2] at h
      by_cases c5 : v1 = 2
      · rw [if_pos c5] at h
        refine e_sw (t := 70) (o := 69) rfl (by decide) (xsw_n c1 (xsw_n c2 (xsw_p c5))) rfl (xnm_no rfl) ?_
        refine e_aload_n rfl rfl rfl (xnm_no rfl) ?_
        refine e_iconst (x := 2) rfl (by decide) (xnm_no rfl) ?_
        obtain ⟨w6, hw7, h⟩ := xbd_some h
        refine e_cIV (hc := hw7) (rest := []) rfl rfl rfl rfl rfl rfl rfl rfl (xnm_no rfl) ?_
        cases h
        exact e_retI rfl rfl
      · rw [if_neg c5] at h
        by_cases c8 : v1 = 3
        · rw [if_pos c8] at h
          refine e_sw (t := 76) (o := 75) rfl (by decide) (xsw_n c1 (xsw_n c2 (xsw_n c5 (xsw_p c8)))) rfl (xnm_no rfl) ?_
          refine e_aload_n rfl rfl rfl (xnm_no rfl) ?_
          refine e_iconst (x := 3) rfl (by decide) (xnm_no rfl) ?_
          obtain ⟨w9, hw10, h⟩ := xbd_some h
          refine e_cIV (hc := hw10) (rest := []) rfl rfl rfl rfl rfl rfl rfl rfl (xnm_no rfl) ?_
          cases h
          exact e_retI rfl rfl
        · rw [if_neg c8] at h
          by_cases c11 : v1 = 4
          · rw [if_pos c11] at h
            refine e_sw (t := 82) (o := 81) rfl (by decide) (xsw_n c1 (xsw_n c2 (xsw_n c5 (xsw_n c8 (xsw_p c11))))) rfl (xnm_no rfl) ?_
            refine e_aload_n rfl rfl rfl (xnm_no rfl) ?_
            refine e_iconst (x := 0) rfl (by decide) (xnm_no rfl) ?_
            obtain ⟨w12, hw13, h⟩ := xbd_some h
            refine e_cIV (hc := hw13) (rest := []) rfl rfl rfl rfl rfl rfl rfl rfl (xnm_no rfl) ?_
            cases h
            exact e_retI rfl rfl
          · rw [if_neg c11] at h
            by_cases c14 : v1 = 5
            · rw [if_pos c14] at h
              refine e_sw (t := 88) (o := 87) rfl (by decide) (xsw_n c1 (xsw_n c2 (xsw_n c5 (xsw_n c8 (xsw_n c11 (xsw_p c14)))))) rfl (xnm_no rfl) ?_
              refine e_aload_n rfl rfl rfl (xnm_no rfl) ?_
              refine e_iconst (x := 1) rfl (by decide) (xnm_no rfl) ?_
              obtain ⟨w15, hw16, h⟩ := xbd_some h
              refine e_cIV (hc := hw16) (rest := []) rfl rfl rfl rfl rfl rfl rfl rfl (xnm_no rfl) ?_
              cases h
              exact e_retI rfl rfl
            · rw [if_neg c14] at h
              by_cases c17 : v1 = 6
              · rw [if_pos c17] at h
                refine e_sw (t := 94) (o := 93) rfl (by decide) (xsw_n c1 (xsw_n c2 (xsw_n c5 (xsw_n c8 (xsw_n c11 (xsw_n c14 (xsw_p c17))))))) rfl (xnm_no rfl) ?_
                refine e_aload_n rfl rfl rfl (xnm_no rfl) ?_
                obtain ⟨w18, hw19, h⟩ := xbd_some h
                refine e_cIV (hc := hw19) (rest := []) rfl rfl rfl rfl rfl rfl rfl rfl (xnm_no rfl) ?_
                cases h
                exact e_retI rfl rfl
              · rw [if_neg c17] at h
                by_cases c20 : v1 = 7
                · rw [if_pos c20] at h
                  refine e_sw (t := 99) (o := 98) rfl (by decide) (xsw_n c1 (xsw_n c2 (xsw_n c5 (xsw_n c8 (xsw_n c11 (xsw_n c14 (xsw_n c17 (xsw_p c20)))))))) rfl (xnm_no rfl) ?_
                  refine e_aload_n rfl rfl rfl (xnm_no rfl) ?_
                  refine e_getR (r := 152) rfl rfl rfl rfl rfl (xnm_no rfl) ?_
                  refine e_bipush (x := 8) rfl (by decide) (xnm_no rfl) ?_
                  refine e_iald rfl (by decide) (xnm_no rfl) ?_
                  cases h
                  exact e_retI rfl rfl
                · rw [if_neg c20] at h
                  by_cases c21 : v1 = 8
                  · rw [if_pos c21] at h
                    refine e_sw (t := 107) (o := 106) rfl (by decide) (xsw_n c1 (xsw_n c2 (xsw_n c5 (xsw_n c8 (xsw_n c11 (xsw_n c14 (xsw_n c17 (xsw_n c20 (xsw_p c21))))))))) rfl (xnm_no rfl) ?_
                    refine e_aload_n rfl rfl rfl (xnm_no rfl) ?_
                    refine e_getI rfl rfl rfl rfl (xnm_no rfl) ?_
                    cases h
                    exact e_retI rfl rfl
                  · rw [if_neg c21] at h
                    by_cases c22 : v1 = 9
                    · rw [if_pos c22] at h
                      refine e_sw (t := 112) (o := 111) rfl (by decide) (xsw_n c1 (xsw_n c2 (xsw_n c5 (xsw_n c8 (xsw_n c11 (xsw_n c14 (xsw_n c17 (xsw_n c20 (xsw_n c21 (xsw_p c22)))))))))) rfl (xnm_no rfl) ?_
                      refine e_aload_n rfl rfl rfl (xnm_no rfl) ?_
                      refine e_getI rfl rfl rfl rfl (xnm_no rfl) ?_
                      cases h
                      exact e_retI rfl rfl
                    · rw [if_neg c22] at h
                      by_cases c23 : v1 = 10
                      · rw [if_pos c23] at h
                        refine e_sw (t := 117) (o := 116) rfl (by decide) (xsw_n c1 (xsw_n c2 (xsw_n c5 (xsw_n c8 (xsw_n c11 (xsw_n c14 (xsw_n c17 (xsw_n c20 (xsw_n c21 (xsw_n c22 (xsw_p c23))))))))))) rfl (xnm_no rfl) ?_
                        refine e_aload_n rfl rfl rfl (xnm_no rfl) ?_
                        refine e_getR (r := 158) rfl rfl rfl rfl rfl (xnm_no rfl) ?_
                        refine e_iconst (x := 0) rfl (by decide) (xnm_no rfl) ?_
                        refine e_bald rfl (by decide) (xnm_no rfl) ?_
                        refine e_if_eq (t := 130) rfl rfl (xnm_no rfl) (xnm_no rfl) h (fun h => ?_) (fun h => ?_)
                        · refine e_iconst (x := 0) rfl (by decide) rfl ?_
                          exact xlfI h
                        · refine e_iconst (x := 1) rfl (by decide) (xnm_no rfl) ?_
                          refine e_goto (t := 131) rfl rfl rfl ?_
                          exact xlfI h
                      · rw [if_neg c23] at h
                        refine e_sw (t := 162) (o := 161) rfl (by decide) (xsw_n c1 (xsw_n c2 (xsw_n c5 (xsw_n c8 (xsw_n c11 (xsw_n c14 (xsw_n c17 (xsw_n c20 (xsw_n c21 (xsw_n c22 (xsw_n c23 xsw_d))))))))))) rfl (xnm_no rfl) ?_
                        refine e_iconst (x := -1) rfl (by decide) (xnm_no rfl) ?_
                        cases h
                        exact e_retI rfl rfl
set_option maxRecDepth 4000 in
theorem bX12_count_144_131_i (s0 : Int32) (m : xmm) {z : Int32 × xmm} (h : (if (m.1 158 1) = 0 then bX12_count_144_145 s0 (0 : Int32) m else bX12_count_144_145 s0 (1 : Int32) m) = some z) : bX12_count_144_131 s0 m = some z := by
  refine xstI ?_
  show xT 255 5 131 [(0, .ref 144)] [.int s0] m (some (.int z.1), z.2)
  refine e_aload_n rfl rfl rfl (xnm_no rfl) ?_
  refine e_getR (r := 158) rfl rfl rfl rfl rfl (xnm_no rfl) ?_
  refine e_iconst (x := 1) rfl (by decide) (xnm_no rfl) ?_
  refine e_bald rfl (by decide) (xnm_no rfl) ?_
  refine e_if_eq (t := 144) rfl rfl (xnm_no rfl) (xnm_no rfl) h (fun h => ?_) (fun h => ?_)
  · refine e_iconst (x := 0) rfl (by decide) rfl ?_
    exact xlfI h
  · refine e_iconst (x := 1) rfl (by decide) (xnm_no rfl) ?_
    refine e_goto (t := 145) rfl rfl rfl ?_
    exact xlfI h
set_option maxRecDepth 4000 in
theorem bX12_count_144_145_i (s0 : Int32) (s1 : Int32) (m : xmm) {z : Int32 × xmm} (h : (if (m.1 158 2) = 0 then some (((s0 + s1) + (0 : Int32)), m) else some (((s0 + s1) + (1 : Int32)), m)) = some z) : bX12_count_144_145 s0 s1 m = some z := by
  refine xstI ?_
  show xT 255 5 145 [(0, .ref 144)] [.int s1, .int s0] m (some (.int z.1), z.2)
  refine e_iadd rfl (xnm_no rfl) ?_
  refine e_aload_n rfl rfl rfl (xnm_no rfl) ?_
  refine e_getR (r := 158) rfl rfl rfl rfl rfl (xnm_no rfl) ?_
  refine e_iconst (x := 2) rfl (by decide) (xnm_no rfl) ?_
  refine e_bald rfl (by decide) (xnm_no rfl) ?_
  refine e_if_eq (t := 159) rfl rfl (xnm_no rfl) (xnm_no rfl) h (fun h => ?_) (fun h => ?_)
  · refine e_iconst (x := 0) rfl (by decide) (xnm_no rfl) ?_
    refine e_iadd rfl (xnm_no rfl) ?_
    cases h
    exact e_retI rfl rfl
  · refine e_iconst (x := 1) rfl (by decide) (xnm_no rfl) ?_
    refine e_goto (t := 160) rfl rfl (xnm_no rfl) ?_
    refine e_iadd rfl (xnm_no rfl) ?_
    cases h
    exact e_retI rfl rfl
