set_option maxRecDepth 4000 in
theorem fX12_laysStraight_144_i (m : xmm) {z : xmm} (h : (bX12_laysStraight_144_4 (0 : Int32) (0 : Int32) m) = some z) : fX12_laysStraight_144 m = some z := by
  refine xstV ?_
  show xT 229 1 0 [(0, .ref 144)] [] m (none, z)
  refine e_iconst (x := 0) rfl (by decide) (xnm_no rfl) ?_
  refine e_istore_n rfl rfl (xnm_no rfl) ?_
  refine e_iconst (x := 0) rfl (by decide) (xnm_no rfl) ?_
  refine e_istore_n rfl rfl rfl ?_
  exact xlfV h
set_option maxRecDepth 4000 in
theorem bX12_laysStraight_144_4_i (v1 : Int32) (v2 : Int32) (m : xmm) {z : xmm} (h : (if (m.1 144 17) ≤ v2 then some m else bX12_laysStraight_144_14 v1 v2 (0 : Int32) m) = some z) : bX12_laysStraight_144_4 v1 v2 m = some z := by
  refine xstV ?_
  show xT 229 1 4 [(0, .ref 144), (1, .int v1), (2, .int v2)] [] m (none, z)
  refine e_iload_n rfl rfl (xnm_no rfl) ?_
  refine e_aload_n rfl rfl rfl (xnm_no rfl) ?_
  refine e_getI rfl rfl rfl rfl (xnm_no rfl) ?_
  refine e_icmp_ge (t := 60) rfl rfl (xnm_no rfl) (xnm_no rfl) h (fun h => ?_) (fun h => ?_)
  · cases h
    exact e_retV rfl rfl
  · refine e_iconst (x := 0) rfl (by decide) (xnm_no rfl) ?_
    refine e_istore_n rfl rfl rfl ?_
    exact xlfV h
set_option maxRecDepth 4000 in
theorem bX12_laysStraight_144_14_i (v1 : Int32) (v2 : Int32) (v3 : Int32) (m : xmm) {z : xmm} (h : ((fX12_has v1 v3 m).bind fun (w1 : Int32 × xmm) => if w1.1 = 0 then xgd (xinb 8 v3) (if ((w1.2.1 165 (v3).toNatClampNeg) &&& (v1 ^^^ (-1 : Int32))) = 0 then xlt (xwi w1.2 173 (v3).toNatClampNeg v2) fun (m4 : xmm) => bX12_laysStraight_144_4 (v1 ||| ((1 : Int32) <<< (v3 &&& 31))) (v2 + (1 : Int32)) m4 else bX12_laysStraight_144_14 v1 v2 (v3 + (1 : Int32)) w1.2) else bX12_laysStraight_144_14 v1 v2 (v3 + (1 : Int32)) w1.2) = some z) : bX12_laysStraight_144_14 v1 v2 v3 m = some z := by
  refine xstV ?_
  show xT 229 1 14 [(0, .ref 144), (1, .int v1), (2, .int v2), (3, .int v3)] [] m (none, z)
  refine e_iload_n rfl rfl (xnm_no rfl) ?_
  refine e_iload_n rfl rfl (xnm_no rfl) ?_
  obtain ⟨w1, hw2, h⟩ := xbd_some h
  refine e_cIS (hc := hw2) (rest := []) rfl rfl rfl rfl rfl rfl rfl rfl (xnm_no rfl) ?_
  refine e_if_ne (t := 35) rfl rfl (xnm_no rfl) (xnm_no rfl) h (fun h => ?_) (fun h => ?_)
  · refine e_iinc (y := 1) rfl rfl rfl (by decide) (xnm_no rfl) ?_
    refine e_goto (t := 14) rfl rfl rfl ?_
    exact xlfV h
  · refine e_aload_n rfl rfl rfl (xnm_no rfl) ?_
    refine e_getR (r := 165) rfl rfl rfl rfl rfl (xnm_no rfl) ?_
    refine e_iload_n rfl rfl (xnm_no rfl) ?_
    obtain ⟨g3, h⟩ := xgd_some h
    refine e_iald rfl g3 (xnm_no rfl) ?_
    refine e_iload_n rfl rfl (xnm_no rfl) ?_
    refine e_iconst (x := -1) rfl (by decide) (xnm_no rfl) ?_
    refine e_ixor rfl (xnm_no rfl) ?_
    refine e_iand rfl (xnm_no rfl) ?_
    refine e_if_eq (t := 41) rfl rfl (xnm_no rfl) (xnm_no rfl) h (fun h => ?_) (fun h => ?_)
    · refine e_aload_n rfl rfl rfl (xnm_no rfl) ?_
      refine e_getR (r := 173) rfl rfl rfl rfl rfl (xnm_no rfl) ?_
      refine e_iload_n rfl rfl (xnm_no rfl) ?_
      refine e_iload_n rfl rfl (xnm_no rfl) ?_
      refine e_iast rfl g3 (xnm_no rfl) ?_
      replace h := xlt_b h
      refine e_iload_n rfl rfl (xnm_no rfl) ?_
      refine e_iconst (x := 1) rfl (by decide) (xnm_no rfl) ?_
      refine e_iload_n rfl rfl (xnm_no rfl) ?_
      refine e_ishl rfl (xnm_no rfl) ?_
      refine e_ior rfl (xnm_no rfl) ?_
      refine e_istore_n rfl rfl (xnm_no rfl) ?_
      refine e_iinc (y := 1) rfl rfl rfl (by decide) (xnm_no rfl) ?_
      refine e_goto (t := 4) rfl rfl rfl ?_
      exact xlfV h
    · refine e_iinc (y := 1) rfl rfl rfl (by decide) (xnm_no rfl) ?_
      refine e_goto (t := 14) rfl rfl rfl ?_
      exact xlfV h
set_option maxRecDepth 4000 in
theorem fX12_crossedPlace_144_i (v1 : Int32) (v2 : Int32) (m : xmm) {z : Int32 × xmm} (h : (if v2 = 0 then xgd (xinb 8 v1) (bX12_crossedPlace_144_19 v1 (m.1 165 (v1).toNatClampNeg) m) else xgd (xinb 8 v1) (bX12_crossedPlace_144_19 v1 (m.1 164 (v1).toNatClampNeg) m)) = some z) : fX12_crossedPlace_144 v1 v2 m = some z := by
  refine xstI ?_
  show xT 230 5 0 [(0, .ref 144), (1, .int v1), (2, .int v2)] [] m (some (.int z.1), z.2)
  refine e_iload_n rfl rfl (xnm_no rfl) ?_
  refine e_if_eq (t := 13) rfl rfl (xnm_no rfl) (xnm_no rfl) h (fun h => ?_) (fun h => ?_)
  · refine e_aload_n rfl rfl rfl (xnm_no rfl) ?_
    refine e_getR (r := 165) rfl rfl rfl rfl rfl (xnm_no rfl) ?_
    refine e_iload_n rfl rfl (xnm_no rfl) ?_
    obtain ⟨g1, h⟩ := xgd_some h
    refine e_iald rfl g1 rfl ?_
    exact xlfI h
  · refine e_aload_n rfl rfl rfl (xnm_no rfl) ?_
    refine e_getR (r := 164) rfl rfl rfl rfl rfl (xnm_no rfl) ?_
    refine e_iload_n rfl rfl (xnm_no rfl) ?_
    obtain ⟨g2, h⟩ := xgd_some h
    refine e_iald rfl g2 (xnm_no rfl) ?_
    refine e_goto (t := 19) rfl rfl rfl ?_
    exact xlfI h
set_option maxRecDepth 4000 in
theorem bX12_crossedPlace_144_19_i (v1 : Int32) (s0 : Int32) (m : xmm) {z : Int32 × xmm} (h : ((fX12_bitsOf s0 m).bind fun (w1 : Int32 × xmm) => (fX12_laysOther_144 w1.2).bind fun (w3 : xmm) => (fX12_laysArrows_144 159 (0 : Int32) w3).bind fun (w5 : xmm) => xgd (xinb 8 v1) ((fX12_bitsOf (w5.1 165 (v1).toNatClampNeg) w5).bind fun (w8 : Int32 × xmm) => some ((w1.1 + w8.1), w8.2))) = some z) : bX12_crossedPlace_144_19 v1 s0 m = some z := by
  refine xstI ?_
  show xT 230 5 19 [(0, .ref 144), (1, .int v1)] [.int s0] m (some (.int z.1), z.2)
  refine e_istore_n rfl rfl (xnm_no rfl) ?_
  refine e_iload_n rfl rfl (xnm_no rfl) ?_
  obtain ⟨w1, hw2, h⟩ := xbd_some h
  refine e_cIS (hc := hw2) (rest := []) rfl rfl rfl rfl rfl rfl rfl rfl (xnm_no rfl) ?_
  refine e_istore rfl rfl (xnm_no rfl) ?_
  refine e_aload_n rfl rfl rfl (xnm_no rfl) ?_
  obtain ⟨w3, hw4, h⟩ := xbd_some h
  refine e_cVV (hc := hw4) (rest := []) rfl rfl rfl rfl rfl rfl rfl rfl (xnm_no rfl) ?_
  refine e_aload_n rfl rfl rfl (xnm_no rfl) ?_
  refine e_aload_n rfl rfl rfl (xnm_no rfl) ?_
  refine e_getR (r := 159) rfl rfl rfl rfl rfl (xnm_no rfl) ?_
  refine e_iconst (x := 0) rfl (by decide) (xnm_no rfl) ?_
  obtain ⟨w5, hw6, h⟩ := xbd_some h
  refine e_cVV (hc := hw6) (rest := []) rfl rfl rfl rfl rfl rfl rfl rfl (xnm_no rfl) ?_
  refine e_iload rfl rfl (xnm_no rfl) ?_
  refine e_aload_n rfl rfl rfl (xnm_no rfl) ?_
  refine e_getR (r := 165) rfl rfl rfl rfl rfl (xnm_no rfl) ?_
  refine e_iload_n rfl rfl (xnm_no rfl) ?_
  obtain ⟨g7, h⟩ := xgd_some h
  refine e_iald rfl g7 (xnm_no rfl) ?_
  obtain ⟨w8, hw9, h⟩ := xbd_some h
  refine e_cIS (hc := hw9) (rest := [.int _]) rfl rfl rfl rfl rfl rfl rfl rfl (xnm_no rfl) ?_
  refine e_iadd rfl (xnm_no rfl) ?_
  cases h
  exact e_retI rfl rfl
set_option maxRecDepth 4000 in
theorem fX12_post_144_i (v1 : Int32) (v2 : Int32) (m : xmm) {z : Int32 × xmm} (h : ((fX12_isPost_144 v1 m).bind fun (w1 : Int32 × xmm) => if w1.1 = 0 then some ((-1 : Int32), w1.2) else (fX12_in v2 (0 : Int32) (6 : Int32) w1.2).bind fun (w3 : Int32 × xmm) => if w3.1 = 0 then some ((-1 : Int32), w3.2) else if v2 ≤ (4 : Int32) then bX12_post_144_32 v1 v2 w3.2 else (fX12_isCrossed_144 w3.2).bind fun (w5 : Int32 × xmm) => if w5.1 = 0 then some ((-2 : Int32), w5.2) else bX12_post_144_32 v1 v2 w5.2) = some z) : fX12_post_144 v1 v2 m = some z := by
  refine xstI ?_
  show xT 231 7 0 [(0, .ref 144), (1, .int v1), (2, .int v2)] [] m (some (.int z.1), z.2)
  refine e_aload_n rfl rfl rfl (xnm_no rfl) ?_
  refine e_iload_n rfl rfl (xnm_no rfl) ?_
  obtain ⟨w1, hw2, h⟩ := xbd_some h
  refine e_cIV (hc := hw2) (rest := []) rfl rfl rfl rfl rfl rfl rfl rfl (xnm_no rfl) ?_
  refine e_if_eq (t := 18) rfl rfl (xnm_no rfl) (xnm_no rfl) h (fun h => ?_) (fun h => ?_)
  · refine e_iconst (x := -1) rfl (by decide) (xnm_no rfl) ?_
    cases h
    exact e_retI rfl rfl
  · refine e_iload_n rfl rfl (xnm_no rfl) ?_
    refine e_iconst (x := 0) rfl (by decide) (xnm_no rfl) ?_
    refine e_bipush (x := 6) rfl (by decide) (xnm_no rfl) ?_
    obtain ⟨w3, hw4, h⟩ := xbd_some h
    refine e_cIS (hc := hw4) (rest := []) rfl rfl rfl rfl rfl rfl rfl rfl (xnm_no rfl) ?_
    refine e_if_ne (t := 20) rfl rfl (xnm_no rfl) (xnm_no rfl) h (fun h => ?_) (fun h => ?_)
    · refine e_iload_n rfl rfl (xnm_no rfl) ?_
      refine e_iconst (x := 4) rfl (by decide) (xnm_no rfl) ?_
      refine e_icmp_le (t := 32) rfl rfl rfl (xnm_no rfl) h (fun h => ?_) (fun h => ?_)
      · exact xlfI h
      · refine e_aload_n rfl rfl rfl (xnm_no rfl) ?_
        obtain ⟨w5, hw6, h⟩ := xbd_some h
        refine e_cIV (hc := hw6) (rest := []) rfl rfl rfl rfl rfl rfl rfl rfl (xnm_no rfl) ?_
        refine e_if_eq (t := 39) rfl rfl (xnm_no rfl) rfl h (fun h => ?_) (fun h => ?_)
        · refine e_bipush (x := -2) rfl (by decide) (xnm_no rfl) ?_
          cases h
          exact e_retI rfl rfl
        · exact xlfI h
    · refine e_iconst (x := -1) rfl (by decide) (xnm_no rfl) ?_
      cases h
      exact e_retI rfl rfl
set_option maxRecDepth 4000 in
theorem bX12_post_144_32_i (v1 : Int32) (v2 : Int32) (m : xmm) {z : Int32 × xmm} (h : ((fX12_isArrowed_144 m).bind fun (w1 : Int32 × xmm) => if w1.1 = 0 then some ((-2 : Int32), w1.2) else if v2 = 0 then (fX12_greatestLevel_144 w1.2).bind fun (w4 : Int32 × xmm) => xgd (xinb 8 v1) (some ((w4.2.1 172 (v1).toNatClampNeg), w4.2)) else if v2 = 1 then xgd (xinb 8 v1) (some ((w1.2.1 165 (v1).toNatClampNeg), w1.2)) else if v2 = 2 then xgd (xinb 8 v1) (some ((w1.2.1 164 (v1).toNatClampNeg), w1.2)) else if v2 = 3 then (fX12_coversOf_144 v1 w1.2).bind fun (w12 : Int32 × xmm) => some (w12.1, w12.2) else if v2 = 4 then (fX12_laysStraight_144 w1.2).bind fun (w15 : xmm) => xgd (xinb 8 v1) (some ((w15.1 173 (v1).toNatClampNeg), w15)) else if v2 = (6 : Int32) then (fX12_crossedPlace_144 v1 (1 : Int32) w1.2).bind fun (w20 : Int32 × xmm) => some (w20.1, w20.2) else (fX12_crossedPlace_144 v1 (0 : Int32) w1.2).bind fun (w18 : Int32 × xmm) => some (w18.1, w18.2)) = some z) : bX12_post_144_32 v1 v2 m = some z := by
  refine xstI ?_
  show xT 231 7 32 [(0, .ref 144), (1, .int v1), (2, .int v2)] [] m (some (.int z.1), z.2)
  refine e_aload_n rfl rfl rfl (xnm_no rfl) ?_
  obtain ⟨w1, hw2, h⟩ := xbd_some h
  refine e_cIV (hc := hw2) (rest := []) rfl rfl rfl rfl rfl rfl rfl rfl (xnm_no rfl) ?_
  refine e_if_ne (t := 42) rfl rfl (xnm_no rfl) (xnm_no rfl) h (fun h => ?_) (fun h => ?_)
  · refine e_iload_n rfl rfl (xnm_no rfl) ?_
    by_cases c3 : v2 = 0
    · rw [if_pos c3] at h
      refine e_sw (t := 76) (o := 33) rfl (by decide) (xsw_p c3) rfl (xnm_no rfl) ?_
      refine e_aload_n rfl rfl rfl (xnm_no rfl) ?_
      obtain ⟨w4, hw5, h⟩ := xbd_some h
      refine e_cIV (hc := hw5) (rest := []) rfl rfl rfl rfl rfl rfl rfl rfl (xnm_no rfl) ?_
      refine e_istore_n rfl rfl (xnm_no rfl) ?_
      refine e_aload_n rfl rfl rfl (xnm_no rfl) ?_
      refine e_getR (r := 172) rfl rfl rfl rfl rfl (xnm_no rfl) ?_
      refine e_iload_n rfl rfl (xnm_no rfl) ?_
      obtain ⟨g6, h⟩ := xgd_some h
      refine e_iald rfl g6 (xnm_no rfl) ?_
      cases h
      exact e_retI rfl rfl
    · rw [if_neg c3] at h
      by_cases c7 : v2 = 1
      · rw [if_pos c7] at h
        refine e_sw (t := 88) (o := 45) rfl (by decide) (xsw_n c3 (xsw_p c7)) rfl (xnm_no rfl) ?_
        refine e_aload_n rfl rfl rfl (xnm_no rfl) ?_
        refine e_getR (r := 165) rfl rfl rfl rfl rfl (xnm_no rfl) ?_
        refine e_iload_n rfl rfl (xnm_no rfl) ?_
        obtain ⟨g8, h⟩ := xgd_some h
        refine e_iald rfl g8 (xnm_no rfl) ?_
        cases h
        exact e_retI rfl rfl
      · rw [if_neg c7] at h
        by_cases c9 : v2 = 2
        · rw [if_pos c9] at h
          refine e_sw (t := 95) (o := 52) rfl (by decide) (xsw_n c3 (xsw_n c7 (xsw_p c9))) rfl (xnm_no rfl) ?_
          refine e_aload_n rfl rfl rfl (xnm_no rfl) ?_
          refine e_getR (r := 164) rfl rfl rfl rfl rfl (xnm_no rfl) ?_
          refine e_iload_n rfl rfl (xnm_no rfl) ?_
          obtain ⟨g10, h⟩ := xgd_some h
          refine e_iald rfl g10 (xnm_no rfl) ?_
          cases h
          exact e_retI rfl rfl
        · rw [if_neg c9] at h
          by_cases c11 : v2 = 3
          · rw [if_pos c11] at h
            refine e_sw (t := 102) (o := 59) rfl (by decide) (xsw_n c3 (xsw_n c7 (xsw_n c9 (xsw_p c11)))) rfl (xnm_no rfl) ?_
            refine e_aload_n rfl rfl rfl (xnm_no rfl) ?_
            refine e_iload_n rfl rfl (xnm_no rfl) ?_
            obtain ⟨w12, hw13, h⟩ := xbd_some h
            refine e_cIV (hc := hw13) (rest := []) rfl rfl rfl rfl rfl rfl rfl rfl (xnm_no rfl) ?_
            cases h
            exact e_retI rfl rfl
          · rw [if_neg c11] at h
            by_cases c14 : v2 = 4
            · rw [if_pos c14] at h
              refine e_sw (t := 108) (o := 65) rfl (by decide) (xsw_n c3 (xsw_n c7 (xsw_n c9 (xsw_n c11 (xsw_p c14))))) rfl (xnm_no rfl) ?_
              refine e_aload_n rfl rfl rfl (xnm_no rfl) ?_
              obtain ⟨w15, hw16, h⟩ := xbd_some h
              refine e_cVV (hc := hw16) (rest := []) rfl rfl rfl rfl rfl rfl rfl rfl (xnm_no rfl) ?_
              refine e_aload_n rfl rfl rfl (xnm_no rfl) ?_
              refine e_getR (r := 173) rfl rfl rfl rfl rfl (xnm_no rfl) ?_
              refine e_iload_n rfl rfl (xnm_no rfl) ?_
              obtain ⟨g17, h⟩ := xgd_some h
              refine e_iald rfl g17 (xnm_no rfl) ?_
              cases h
              exact e_retI rfl rfl
            · rw [if_neg c14] at h
              refine e_sw (t := 119) (o := 76) rfl (by decide) (xsw_n c3 (xsw_n c7 (xsw_n c9 (xsw_n c11 (xsw_n c14 xsw_d))))) rfl (xnm_no rfl) ?_
              refine e_aload_n rfl rfl rfl (xnm_no rfl) ?_
              refine e_iload_n rfl rfl (xnm_no rfl) ?_
              refine e_iload_n rfl rfl (xnm_no rfl) ?_
              refine e_bipush (x := 6) rfl (by decide) (xnm_no rfl) ?_
              refine e_icmp_ne (t := 131) rfl rfl (xnm_no rfl) (xnm_no rfl) h (fun h => ?_) (fun h => ?_)
              · refine e_iconst (x := 0) rfl (by decide) (xnm_no rfl) ?_
                obtain ⟨w18, hw19, h⟩ := xbd_some h
                refine e_cIV (hc := hw19) (rest := []) rfl rfl rfl rfl rfl rfl rfl rfl (xnm_no rfl) ?_
                cases h
                exact e_retI rfl rfl
              · refine e_iconst (x := 1) rfl (by decide) (xnm_no rfl) ?_
                refine e_goto (t := 132) rfl rfl (xnm_no rfl) ?_
                obtain ⟨w20, hw21, h⟩ := xbd_some h
                refine e_cIV (hc := hw21) (rest := []) rfl rfl rfl rfl rfl rfl rfl rfl (xnm_no rfl) ?_
                cases h
                exact e_retI rfl rfl
  · refine e_bipush (x := -2) rfl (by decide) (xnm_no rfl) ?_
    cases h
    exact e_retI rfl rfl
set_option maxRecDepth 4000 in
theorem fX5_countStraight_123_i (m : xmm) {z : Int32 × xmm} (h : (some ((m.1 127 0), m)) = some z) : fX5_countStraight_123 m = some z := by
  refine xstI ?_
  show xT 54 0 0 [(0, .ref 123)] [] m (some (.int z.1), z.2)
  refine e_aload_n rfl rfl rfl (xnm_no rfl) ?_
  refine e_getR (r := 127) rfl rfl rfl rfl rfl (xnm_no rfl) ?_
  refine e_iconst (x := 0) rfl (by decide) (xnm_no rfl) ?_
  refine e_iald rfl (by decide) (xnm_no rfl) ?_
  cases h
  exact e_retI rfl rfl
set_option maxRecDepth 4000 in
theorem fX5_countCovers_123_i (m : xmm) {z : Int32 × xmm} (h : (bX5_countCovers_123_4 (0 : Int32) (0 : Int32) m) = some z) : fX5_countCovers_123 m = some z := by
  refine xstI ?_
  show xT 52 2 0 [(0, .ref 123)] [] m (some (.int z.1), z.2)
  refine e_iconst (x := 0) rfl (by decide) (xnm_no rfl) ?_
  refine e_istore_n rfl rfl (xnm_no rfl) ?_
  refine e_iconst (x := 0) rfl (by decide) (xnm_no rfl) ?_
  refine e_istore_n rfl rfl rfl ?_
  exact xlfI h
set_option maxRecDepth 4000 in
theorem bX5_countCovers_123_4_i (v1 : Int32) (v2 : Int32) (m : xmm) {z : Int32 × xmm} (h : (if (m.1 123 6) ≤ v2 then some (v1, m) else (fX5_coveredBy_123 v2 m).bind fun (w1 : Int32 × xmm) => (fJ6_bitCount w1.1 w1.2).bind fun (w3 : Int32 × xmm) => bX5_countCovers_123_4 (v1 + w3.1) (v2 + (1 : Int32)) w3.2) = some z) : bX5_countCovers_123_4 v1 v2 m = some z := by
  refine xstI ?_
  show xT 52 2 4 [(0, .ref 123), (1, .int v1), (2, .int v2)] [] m (some (.int z.1), z.2)
  refine e_iload_n rfl rfl (xnm_no rfl) ?_
  refine e_aload_n rfl rfl rfl (xnm_no rfl) ?_
  refine e_getI rfl rfl rfl rfl (xnm_no rfl) ?_
  refine e_icmp_ge (t := 29) rfl rfl (xnm_no rfl) (xnm_no rfl) h (fun h => ?_) (fun h => ?_)
  · refine e_iload_n rfl rfl (xnm_no rfl) ?_
    cases h
    exact e_retI rfl rfl
  · refine e_iload_n rfl rfl (xnm_no rfl) ?_
    refine e_aload_n rfl rfl rfl (xnm_no rfl) ?_
    refine e_iload_n rfl rfl (xnm_no rfl) ?_
    obtain ⟨w1, hw2, h⟩ := xbd_some h
    refine e_cIV (hc := hw2) (rest := [.int _]) rfl rfl rfl rfl rfl rfl rfl rfl (xnm_no rfl) ?_
    obtain ⟨w3, hw4, h⟩ := xbd_some h
    refine e_cIS (hc := hw4) (rest := [.int _]) rfl rfl rfl rfl rfl rfl rfl rfl (xnm_no rfl) ?_
    refine e_iadd rfl (xnm_no rfl) ?_
    refine e_istore_n rfl rfl (xnm_no rfl) ?_
    refine e_iinc (y := 1) rfl rfl rfl (by decide) (xnm_no rfl) ?_
    refine e_goto (t := 4) rfl rfl rfl ?_
    exact xlfI h
set_option maxRecDepth 4000 in
theorem fX9_isApart_i (v0 : Nat) (v1 : Int32) (m : xmm) {z : Int32 × xmm} (h : (xgd (!(Nat.beq v0 1999)) ((fX9_touched v0 v1 m).bind fun (w2 : Int32 × xmm) => if (w2.1 &&& v1) = 0 then some ((1 : Int32), w2.2) else some ((0 : Int32), w2.2))) = some z) : fX9_isApart v0 v1 m = some z := by
  refine xstI ?_
  show xT 98 2 0 [(0, .ref v0), (1, .int v1)] [] m (some (.int z.1), z.2)
  obtain ⟨g1, h⟩ := xgd_some h
  refine e_aload_n rfl rfl (xnb g1) (xnm_no rfl) ?_
  refine e_iload_n rfl rfl (xnm_no rfl) ?_
  obtain ⟨w2, hw3, h⟩ := xbd_some h
  refine e_cIS (hc := hw3) (rest := []) rfl rfl rfl rfl rfl rfl rfl rfl (xnm_no rfl) ?_
  refine e_iload_n rfl rfl (xnm_no rfl) ?_
  refine e_iand rfl (xnm_no rfl) ?_
  refine e_if_ne (t := 14) rfl rfl (xnm_no rfl) (xnm_no rfl) h (fun h => ?_) (fun h => ?_)
  · refine e_iconst (x := 0) rfl (by decide) (xnm_no rfl) ?_
    cases h
    exact e_retI rfl (by decide)
  · refine e_iconst (x := 1) rfl (by decide) (xnm_no rfl) ?_
    refine e_goto (t := 15) rfl rfl (xnm_no rfl) ?_
    cases h
    exact e_retI rfl (by decide)
set_option maxRecDepth 4000 in
theorem fX9_greatestApart_i (v0 : Nat) (v1 : Int32) (m : xmm) {z : Int32 × xmm} (h : (bX9_greatestApart_4 v0 v1 (0 : Int32) (0 : Int32) m) = some z) : fX9_greatestApart v0 v1 m = some z := by
  refine xstI ?_
  show xT 103 3 0 [(0, .ref v0), (1, .int v1)] [] m (some (.int z.1), z.2)
  refine e_iconst (x := 0) rfl (by decide) (xnm_no rfl) ?_
  refine e_istore_n rfl rfl (xnm_no rfl) ?_
  refine e_iconst (x := 0) rfl (by decide) (xnm_no rfl) ?_
  refine e_istore_n rfl rfl rfl ?_
  exact xlfI h
set_option maxRecDepth 4000 in
theorem bX9_greatestApart_4_i (v0 : Nat) (v1 : Int32) (v2 : Int32) (v3 : Int32) (m : xmm) {z : Int32 × xmm} (h : (if v1 < v3 then some (v2, m) else if (256 : Int32) ≤ v3 then some (v2, m) else (fJ6_bitCount v3 m).bind fun (w1 : Int32 × xmm) => (fJ6_bitCount v2 w1.2).bind fun (w3 : Int32 × xmm) => if w1.1 ≤ w3.1 then bX9_greatestApart_4 v0 v1 v2 (v3 + (1 : Int32)) w3.2 else xgd (!(Nat.beq v0 1999)) ((fX9_isApart v0 v3 w3.2).bind fun (w6 : Int32 × xmm) => if w6.1 = 0 then bX9_greatestApart_4 v0 v1 v2 (v3 + (1 : Int32)) w6.2 else bX9_greatestApart_4 v0 v1 v3 (v3 + (1 : Int32)) w6.2)) = some z) : bX9_greatestApart_4 v0 v1 v2 v3 m = some z := by
  refine xstI ?_
  show xT 103 3 4 [(0, .ref v0), (1, .int v1), (2, .int v2), (3, .int v3)] [] m (some (.int z.1), z.2)
  refine e_iload_n rfl rfl (xnm_no rfl) ?_
  refine e_iload_n rfl rfl (xnm_no rfl) ?_
  refine e_icmp_gt (t := 43) rfl rfl (xnm_no rfl) (xnm_no rfl) h (fun h => ?_) (fun h => ?_)
  · refine e_iload_n rfl rfl (xnm_no rfl) ?_
    cases h
    exact e_retI rfl rfl
  · refine e_iload_n rfl rfl (xnm_no rfl) ?_
    refine e_sipush (x := 256) rfl (by decide) (xnm_no rfl) ?_
    refine e_icmp_ge (t := 43) rfl rfl (xnm_no rfl) (xnm_no rfl) h (fun h => ?_) (fun h => ?_)
    · refine e_iload_n rfl rfl (xnm_no rfl) ?_
      cases h
      exact e_retI rfl rfl
    · refine e_iload_n rfl rfl (xnm_no rfl) ?_
      obtain ⟨w1, hw2, h⟩ := xbd_some h
      refine e_cIS (hc := hw2) (rest := []) rfl rfl rfl rfl rfl rfl rfl rfl (xnm_no rfl) ?_
      refine e_iload_n rfl rfl (xnm_no rfl) ?_
      obtain ⟨w3, hw4, h⟩ := xbd_some h
      refine e_cIS (hc := hw4) (rest := [.int _]) rfl rfl rfl rfl rfl rfl rfl rfl (xnm_no rfl) ?_
      refine e_icmp_le (t := 37) rfl rfl (xnm_no rfl) (xnm_no rfl) h (fun h => ?_) (fun h => ?_)
      · refine e_iinc (y := 1) rfl rfl rfl (by decide) (xnm_no rfl) ?_
        refine e_goto (t := 4) rfl rfl rfl ?_
        exact xlfI h
      · obtain ⟨g5, h⟩ := xgd_some h
        refine e_aload_n rfl rfl (xnb g5) (xnm_no rfl) ?_
        refine e_iload_n rfl rfl (xnm_no rfl) ?_
        obtain ⟨w6, hw7, h⟩ := xbd_some h
        refine e_cIS (hc := hw7) (rest := []) rfl rfl rfl rfl rfl rfl rfl rfl (xnm_no rfl) ?_
        refine e_if_eq (t := 37) rfl rfl (xnm_no rfl) (xnm_no rfl) h (fun h => ?_) (fun h => ?_)
        · refine e_iinc (y := 1) rfl rfl rfl (by decide) (xnm_no rfl) ?_
          refine e_goto (t := 4) rfl rfl rfl ?_
          exact xlfI h
        · refine e_iload_n rfl rfl (xnm_no rfl) ?_
          refine e_istore_n rfl rfl (xnm_no rfl) ?_
          refine e_iinc (y := 1) rfl rfl rfl (by decide) (xnm_no rfl) ?_
          refine e_goto (t := 4) rfl rfl rfl ?_
          exact xlfI h
set_option maxRecDepth 4000 in
theorem fX10_clearGroups_132_i (m : xmm) {z : xmm} (h : (bX10_clearGroups_132_2 (0 : Int32) m) = some z) : fX10_clearGroups_132 m = some z := by
  refine xstV ?_
  show xT 110 0 0 [(0, .ref 132)] [] m (none, z)
  refine e_iconst (x := 0) rfl (by decide) (xnm_no rfl) ?_
  refine e_istore_n rfl rfl rfl ?_
  exact xlfV h
set_option maxRecDepth 4000 in
theorem bX10_clearGroups_132_2_i (v1 : Int32) (m : xmm) {z : xmm} (h : (if (8 : Int32) ≤ v1 then some m else xgd (xinb 8 v1) (xlt (xwi m 133 (v1).toNatClampNeg (0 : Int32)) fun (m2 : xmm) => bX10_clearGroups_132_2 (v1 + (1 : Int32)) m2)) = some z) : bX10_clearGroups_132_2 v1 m = some z := by
  refine xstV ?_
  show xT 110 0 2 [(0, .ref 132), (1, .int v1)] [] m (none, z)
  refine e_iload_n rfl rfl (xnm_no rfl) ?_
  refine e_bipush (x := 8) rfl (by decide) (xnm_no rfl) ?_
  refine e_icmp_ge (t := 21) rfl rfl (xnm_no rfl) (xnm_no rfl) h (fun h => ?_) (fun h => ?_)
  · cases h
    exact e_retV rfl rfl
  · refine e_aload_n rfl rfl rfl (xnm_no rfl) ?_
    refine e_getR (r := 133) rfl rfl rfl rfl rfl (xnm_no rfl) ?_
    refine e_iload_n rfl rfl (xnm_no rfl) ?_
    refine e_iconst (x := 0) rfl (by decide) (xnm_no rfl) ?_
    obtain ⟨g1, h⟩ := xgd_some h
    refine e_iast rfl g1 (xnm_no rfl) ?_
    replace h := xlt_b h
    refine e_iinc (y := 1) rfl rfl rfl (by decide) (xnm_no rfl) ?_
    refine e_goto (t := 2) rfl rfl rfl ?_
    exact xlfV h
set_option maxRecDepth 4000 in
theorem fX10_fill_i (v0 : Nat) (v1 : Nat) (v2 : Nat) (v3 : Int32) (v4 : Int32) (v5 : Int32) (m : xmm) {z : Int32 × xmm} (h : (if v4 ≤ v3 then some ((1 : Int32), m) else if v3 < (8 : Int32) then bX10_fill_17 (xrk 111 [.ref v0, .ref v1, .ref v2, .int v3, .int v4, .int v5]) v0 v1 v2 v3 v4 v5 (0 : Int32) m else some ((1 : Int32), m)) = some z) : fX10_fill v0 v1 v2 v3 v4 v5 m = some z := by
  refine xstI ?_
  show xT 111 (xrk 111 [.ref v0, .ref v1, .ref v2, .int v3, .int v4, .int v5]) 0 [(0, .ref v0), (1, .ref v1), (2, .ref v2), (3, .int v3), (4, .int v4), (5, .int v5)] [] m (some (.int z.1), z.2)
  refine e_iload_n rfl rfl (xnm_no rfl) ?_
  refine e_iload rfl rfl (xnm_no rfl) ?_
  refine e_icmp_ge (t := 12) rfl rfl (xnm_no rfl) (xnm_no rfl) h (fun h => ?_) (fun h => ?_)
  · refine e_iconst (x := 1) rfl (by decide) (xnm_no rfl) ?_
    cases h
    exact e_retI rfl (by decide)
  · refine e_iload_n rfl rfl (xnm_no rfl) ?_
    refine e_bipush (x := 8) rfl (by decide) (xnm_no rfl) ?_
    refine e_icmp_lt (t := 14) rfl rfl (xnm_no rfl) (xnm_no rfl) h (fun h => ?_) (fun h => ?_)
    · refine e_iconst (x := 0) rfl (by decide) (xnm_no rfl) ?_
      refine e_istore rfl rfl rfl ?_
      exact xlfI h
    · refine e_iconst (x := 1) rfl (by decide) (xnm_no rfl) ?_
      cases h
      exact e_retI rfl (by decide)
set_option maxRecDepth 4000 in
theorem bX10_fill_17_i (rk : Nat) (v0 : Nat) (v1 : Nat) (v2 : Nat) (v3 : Int32) (v4 : Int32) (v5 : Int32) (v6 : Int32) (m : xmm) {z : Int32 × xmm} (h : (if v5 ≤ v6 then some ((0 : Int32), m) else if (8 : Int32) ≤ v6 then some ((0 : Int32), m) else xgd (!(Nat.beq v1 1999)) (xgd (xia 1 v1 v6) (xgd (!(Nat.beq v0 1999)) (xgd (xia 1 v0 v3) (if ((m.1 v1 (v6).toNatClampNeg) &&& ((m.1 v0 (v3).toNatClampNeg) ^^^ (-1 : Int32))) = 0 then xlt (xwi m v1 (v6).toNatClampNeg ((m.1 v1 (v6).toNatClampNeg) ||| ((1 : Int32) <<< (v3 &&& 31)))) fun (m5 : xmm) => xgd (!(Nat.beq v2 1999)) (xgd (xia 1 v2 v3) (xlt (xwi m5 v2 (v3).toNatClampNeg v6) fun (m8 : xmm) => xgd (xcg 111 rk 111 [.ref v0, .ref v1, .ref v2, .int (v3 + (1 : Int32)), .int v4, .int v5] []) ((fX10_fill v0 v1 v2 (v3 + (1 : Int32)) v4 v5 m8).bind fun (w9 : Int32 × xmm) => if w9.1 = 0 then xlt (xwi w9.2 v1 (v6).toNatClampNeg ((w9.2.1 v1 (v6).toNatClampNeg) &&& (((1 : Int32) <<< (v3 &&& 31)) ^^^ (-1 : Int32)))) fun (m12 : xmm) => bX10_fill_89 rk v0 v1 v2 v3 v4 v5 v6 m12 else some ((1 : Int32), w9.2)))) else bX10_fill_89 rk v0 v1 v2 v3 v4 v5 v6 m))))) = some z) : bX10_fill_17 rk v0 v1 v2 v3 v4 v5 v6 m = some z := by
  refine xstI ?_
  show xT 111 rk 17 [(0, .ref v0), (1, .ref v1), (2, .ref v2), (3, .int v3), (4, .int v4), (5, .int v5), (6, .int v6)] [] m (some (.int z.1), z.2)
  refine e_iload rfl rfl (xnm_no rfl) ?_
  refine e_iload rfl rfl (xnm_no rfl) ?_
  refine e_icmp_ge (t := 104) rfl rfl (xnm_no rfl) (xnm_no rfl) h (fun h => ?_) (fun h => ?_)
  · refine e_iconst (x := 0) rfl (by decide) (xnm_no rfl) ?_
    cases h
    exact e_retI rfl (by decide)
  · refine e_iload rfl rfl (xnm_no rfl) ?_
    refine e_bipush (x := 8) rfl (by decide) (xnm_no rfl) ?_
    refine e_icmp_ge (t := 104) rfl rfl (xnm_no rfl) (xnm_no rfl) h (fun h => ?_) (fun h => ?_)
    · refine e_iconst (x := 0) rfl (by decide) (xnm_no rfl) ?_
      cases h
      exact e_retI rfl (by decide)
    · obtain ⟨g1, h⟩ := xgd_some h
      refine e_aload_n rfl rfl (xnb g1) (xnm_no rfl) ?_
      refine e_iload rfl rfl (xnm_no rfl) ?_
      obtain ⟨g2, h⟩ := xgd_some h
      refine e_iald rfl g2 (xnm_no rfl) ?_
      obtain ⟨g3, h⟩ := xgd_some h
      refine e_aload_n rfl rfl (xnb g3) (xnm_no rfl) ?_
      refine e_iload_n rfl rfl (xnm_no rfl) ?_
      obtain ⟨g4, h⟩ := xgd_some h
      refine e_iald rfl g4 (xnm_no rfl) ?_
      refine e_iconst (x := -1) rfl (by decide) (xnm_no rfl) ?_
      refine e_ixor rfl (xnm_no rfl) ?_
      refine e_iand rfl (xnm_no rfl) ?_
      refine e_if_ne (t := 89) rfl rfl rfl (xnm_no rfl) h (fun h => ?_) (fun h => ?_)
      · exact xlfI h
      · refine e_aload_n rfl rfl (xnb g1) (xnm_no rfl) ?_
        refine e_iload rfl rfl (xnm_no rfl) ?_
        refine e_dup2 rfl rfl rfl (xnm_no rfl) ?_
        refine e_iald rfl g2 (xnm_no rfl) ?_
        refine e_iconst (x := 1) rfl (by decide) (xnm_no rfl) ?_
        refine e_iload_n rfl rfl (xnm_no rfl) ?_
        refine e_ishl rfl (xnm_no rfl) ?_
        refine e_ior rfl (xnm_no rfl) ?_
        refine e_iast rfl g2 (xnm_no rfl) ?_
        replace h := xlt_b h
        obtain ⟨g6, h⟩ := xgd_some h
        refine e_aload_n rfl rfl (xnb g6) (xnm_no rfl) ?_
        refine e_iload_n rfl rfl (xnm_no rfl) ?_
        refine e_iload rfl rfl (xnm_no rfl) ?_
        obtain ⟨g7, h⟩ := xgd_some h
        refine e_iast rfl g7 (xnm_no rfl) ?_
        replace h := xlt_b h
        refine e_aload_n rfl rfl (xnb g3) (xnm_no rfl) ?_
        refine e_aload_n rfl rfl (xnb g1) (xnm_no rfl) ?_
        refine e_aload_n rfl rfl (xnb g6) (xnm_no rfl) ?_
        refine e_iload_n rfl rfl (xnm_no rfl) ?_
        refine e_iconst (x := 1) rfl (by decide) (xnm_no rfl) ?_
        refine e_iadd rfl (xnm_no rfl) ?_
        refine e_iload rfl rfl (xnm_no rfl) ?_
        refine e_iload rfl rfl (xnm_no rfl) ?_
        obtain ⟨g11, h⟩ := xgd_some h
        obtain ⟨w9, hw10, h⟩ := xbd_some h
        refine e_cIS (hc := hw10) (rest := []) rfl rfl rfl rfl rfl rfl g11 rfl (xnm_no rfl) ?_
        refine e_if_eq (t := 77) rfl rfl (xnm_no rfl) (xnm_no rfl) h (fun h => ?_) (fun h => ?_)
        · refine e_aload_n rfl rfl (xnb g1) (xnm_no rfl) ?_
          refine e_iload rfl rfl (xnm_no rfl) ?_
          refine e_dup2 rfl rfl rfl (xnm_no rfl) ?_
          refine e_iald rfl g2 (xnm_no rfl) ?_
          refine e_iconst (x := 1) rfl (by decide) (xnm_no rfl) ?_
          refine e_iload_n rfl rfl (xnm_no rfl) ?_
          refine e_ishl rfl (xnm_no rfl) ?_
          refine e_iconst (x := -1) rfl (by decide) (xnm_no rfl) ?_
          refine e_ixor rfl (xnm_no rfl) ?_
          refine e_iand rfl (xnm_no rfl) ?_
          refine e_iast rfl g2 rfl ?_
          replace h := xlt_b h
          exact xlfI h
        · refine e_iconst (x := 1) rfl (by decide) (xnm_no rfl) ?_
          cases h
          exact e_retI rfl (by decide)
set_option maxRecDepth 4000 in
theorem bX10_fill_89_i (rk : Nat) (v0 : Nat) (v1 : Nat) (v2 : Nat) (v3 : Int32) (v4 : Int32) (v5 : Int32) (v6 : Int32) (m : xmm) {z : Int32 × xmm} (h : (xgd (!(Nat.beq v1 1999)) (xgd (xia 1 v1 v6) (if (m.1 v1 (v6).toNatClampNeg) = 0 then some ((0 : Int32), m) else bX10_fill_17 rk v0 v1 v2 v3 v4 v5 (v6 + (1 : Int32)) m))) = some z) : bX10_fill_89 rk v0 v1 v2 v3 v4 v5 v6 m = some z := by
  refine xstI ?_
  show xT 111 rk 89 [(0, .ref v0), (1, .ref v1), (2, .ref v2), (3, .int v3), (4, .int v4), (5, .int v5), (6, .int v6)] [] m (some (.int z.1), z.2)
  obtain ⟨g1, h⟩ := xgd_some h
  refine e_aload_n rfl rfl (xnb g1) (xnm_no rfl) ?_
  refine e_iload rfl rfl (xnm_no rfl) ?_
  obtain ⟨g2, h⟩ := xgd_some h
  refine e_iald rfl g2 (xnm_no rfl) ?_
  refine e_if_ne (t := 98) rfl rfl (xnm_no rfl) (xnm_no rfl) h (fun h => ?_) (fun h => ?_)
  · refine e_iinc (y := 1) rfl rfl rfl (by decide) (xnm_no rfl) ?_
    refine e_goto (t := 17) rfl rfl rfl ?_
    exact xlfI h
  · refine e_iconst (x := 0) rfl (by decide) (xnm_no rfl) ?_
    cases h
    exact e_retI rfl (by decide)
set_option maxRecDepth 4000 in
theorem fX10_share_132_10_i (m : xmm) {z : Int32 × xmm} (h : (xlt (if (8 : Int32) < (m.1 10 0) then (8 : Int32) else (m.1 10 0)) fun (x1 : Int32) => bX10_share_132_10_12 x1 (0 : Int32) m) = some z) : fX10_share_132_10 m = some z := by
  refine xstI ?_
  show xT 108 10 0 [(0, .ref 132), (1, .ref 10)] [] m (some (.int z.1), z.2)
  refine e_aload_n rfl rfl rfl (xnm_no rfl) ?_
  refine e_getI rfl rfl rfl rfl (xnm_no rfl) ?_
  refine e_bipush (x := 8) rfl (by decide) (xnm_no rfl) ?_
  refine e_min rfl rfl rfl (xnm_no rfl) ?_
  replace h := xlt_b h
  refine e_istore_n rfl rfl (xnm_no rfl) ?_
  refine e_iconst (x := 0) rfl (by decide) (xnm_no rfl) ?_
  refine e_istore_n rfl rfl rfl ?_
  exact xlfI h
set_option maxRecDepth 4000 in
theorem bX10_share_132_10_12_i (v2 : Int32) (v3 : Int32) (m : xmm) {z : Int32 × xmm} (h : (if v2 ≤ v3 then (fX10_clearGroups_132 m).bind fun (w1 : xmm) => xgd (xcg 108 10 111 [.ref 11, .ref 133, .ref 134, .int (0 : Int32), .int v2, .int v2] []) ((fX10_fill 11 133 134 (0 : Int32) v2 v2 w1).bind fun (w3 : Int32 × xmm) => some (v2, w3.2)) else (fX10_clearGroups_132 m).bind fun (w6 : xmm) => xgd (xcg 108 10 111 [.ref 11, .ref 133, .ref 134, .int (0 : Int32), .int v2, .int v3] []) ((fX10_fill 11 133 134 (0 : Int32) v2 v3 w6).bind fun (w8 : Int32 × xmm) => if w8.1 = 0 then bX10_share_132_10_12 v2 (v3 + (1 : Int32)) w8.2 else some (v3, w8.2))) = some z) : bX10_share_132_10_12 v2 v3 m = some z := by
  refine xstI ?_
  show xT 108 10 12 [(0, .ref 132), (1, .ref 10), (2, .int v2), (3, .int v3)] [] m (some (.int z.1), z.2)
  refine e_iload_n rfl rfl (xnm_no rfl) ?_
  refine e_iload_n rfl rfl (xnm_no rfl) ?_
  refine e_icmp_ge (t := 50) rfl rfl (xnm_no rfl) (xnm_no rfl) h (fun h => ?_) (fun h => ?_)
  · refine e_aload_n rfl rfl rfl (xnm_no rfl) ?_
    obtain ⟨w1, hw2, h⟩ := xbd_some h
    refine e_cVV (hc := hw2) (rest := []) rfl rfl rfl rfl rfl rfl rfl rfl (xnm_no rfl) ?_
    refine e_aload_n rfl rfl rfl (xnm_no rfl) ?_
    refine e_getR (r := 11) rfl rfl rfl rfl rfl (xnm_no rfl) ?_
    refine e_aload_n rfl rfl rfl (xnm_no rfl) ?_
    refine e_getR (r := 133) rfl rfl rfl rfl rfl (xnm_no rfl) ?_
    refine e_aload_n rfl rfl rfl (xnm_no rfl) ?_
    refine e_getR (r := 134) rfl rfl rfl rfl rfl (xnm_no rfl) ?_
    refine e_iconst (x := 0) rfl (by decide) (xnm_no rfl) ?_
    refine e_iload_n rfl rfl (xnm_no rfl) ?_
    refine e_iload_n rfl rfl (xnm_no rfl) ?_
    obtain ⟨g5, h⟩ := xgd_some h
    obtain ⟨w3, hw4, h⟩ := xbd_some h
    refine e_cIS (hc := hw4) (rest := []) rfl rfl rfl rfl rfl rfl g5 rfl (xnm_no rfl) ?_
    refine e_pop rfl rfl (xnm_no rfl) ?_
    refine e_iload_n rfl rfl (xnm_no rfl) ?_
    cases h
    exact e_retI rfl rfl
  · refine e_aload_n rfl rfl rfl (xnm_no rfl) ?_
    obtain ⟨w6, hw7, h⟩ := xbd_some h
    refine e_cVV (hc := hw7) (rest := []) rfl rfl rfl rfl rfl rfl rfl rfl (xnm_no rfl) ?_
    refine e_aload_n rfl rfl rfl (xnm_no rfl) ?_
    refine e_getR (r := 11) rfl rfl rfl rfl rfl (xnm_no rfl) ?_
    refine e_aload_n rfl rfl rfl (xnm_no rfl) ?_
    refine e_getR (r := 133) rfl rfl rfl rfl rfl (xnm_no rfl) ?_
    refine e_aload_n rfl rfl rfl (xnm_no rfl) ?_
    refine e_getR (r := 134) rfl rfl rfl rfl rfl (xnm_no rfl) ?_
    refine e_iconst (x := 0) rfl (by decide) (xnm_no rfl) ?_
    refine e_iload_n rfl rfl (xnm_no rfl) ?_
    refine e_iload_n rfl rfl (xnm_no rfl) ?_
    obtain ⟨g10, h⟩ := xgd_some h
    obtain ⟨w8, hw9, h⟩ := xbd_some h
    refine e_cIS (hc := hw9) (rest := []) rfl rfl rfl rfl rfl rfl g10 rfl (xnm_no rfl) ?_
    refine e_if_eq (t := 44) rfl rfl (xnm_no rfl) (xnm_no rfl) h (fun h => ?_) (fun h => ?_)
    · refine e_iinc (y := 1) rfl rfl rfl (by decide) (xnm_no rfl) ?_
      refine e_goto (t := 12) rfl rfl rfl ?_
      exact xlfI h
    · refine e_iload_n rfl rfl (xnm_no rfl) ?_
      cases h
      exact e_retI rfl rfl
set_option maxRecDepth 4000 in
theorem fX5_greatestLevel_123_i (m : xmm) {z : Int32 × xmm} (h : (bX5_greatestLevel_123_4 (-1 : Int32) (0 : Int32) m) = some z) : fX5_greatestLevel_123 m = some z := by
  refine xstI ?_
  show xT 53 1 0 [(0, .ref 123)] [] m (some (.int z.1), z.2)
  refine e_iconst (x := -1) rfl (by decide) (xnm_no rfl) ?_
  refine e_istore_n rfl rfl (xnm_no rfl) ?_
  refine e_iconst (x := 0) rfl (by decide) (xnm_no rfl) ?_
  refine e_istore_n rfl rfl rfl ?_
  exact xlfI h
set_option maxRecDepth 4000 in
theorem bX5_greatestLevel_123_4_i (v1 : Int32) (v2 : Int32) (m : xmm) {z : Int32 × xmm} (h : (if (m.1 123 6) ≤ v2 then some (v1, m) else xgd (xinb 8 v2) (xlt (if v1 < (m.1 126 (v2).toNatClampNeg) then (m.1 126 (v2).toNatClampNeg) else v1) fun (x2 : Int32) => bX5_greatestLevel_123_4 x2 (v2 + (1 : Int32)) m)) = some z) : bX5_greatestLevel_123_4 v1 v2 m = some z := by
  refine xstI ?_
  show xT 53 1 4 [(0, .ref 123), (1, .int v1), (2, .int v2)] [] m (some (.int z.1), z.2)
  refine e_iload_n rfl rfl (xnm_no rfl) ?_
  refine e_aload_n rfl rfl rfl (xnm_no rfl) ?_
  refine e_getI rfl rfl rfl rfl (xnm_no rfl) ?_
  refine e_icmp_ge (t := 29) rfl rfl (xnm_no rfl) (xnm_no rfl) h (fun h => ?_) (fun h => ?_)
  · refine e_iload_n rfl rfl (xnm_no rfl) ?_
    cases h
    exact e_retI rfl rfl
  · refine e_iload_n rfl rfl (xnm_no rfl) ?_
    refine e_aload_n rfl rfl rfl (xnm_no rfl) ?_
    refine e_getR (r := 126) rfl rfl rfl rfl rfl (xnm_no rfl) ?_
    refine e_iload_n rfl rfl (xnm_no rfl) ?_
    obtain ⟨g1, h⟩ := xgd_some h
    refine e_iald rfl g1 (xnm_no rfl) ?_
    refine e_max rfl rfl rfl (xnm_no rfl) ?_
    replace h := xlt_b h
    refine e_istore_n rfl rfl (xnm_no rfl) ?_
    refine e_iinc (y := 1) rfl rfl rfl (by decide) (xnm_no rfl) ?_
    refine e_goto (t := 4) rfl rfl rfl ?_
    exact xlfI h
set_option maxRecDepth 4000 in
theorem fX5_isDown_123_i (v1 : Int32) (m : xmm) {z : Int32 × xmm} (h : (bX5_isDown_123_2 v1 (0 : Int32) m) = some z) : fX5_isDown_123 v1 m = some z := by
  refine xstI ?_
  show xT 58 1 0 [(0, .ref 123), (1, .int v1)] [] m (some (.int z.1), z.2)
  refine e_iconst (x := 0) rfl (by decide) (xnm_no rfl) ?_
  refine e_istore_n rfl rfl rfl ?_
  exact xlfI h
set_option maxRecDepth 4000 in
theorem bX5_isDown_123_2_i (v1 : Int32) (v2 : Int32) (m : xmm) {z : Int32 × xmm} (h : (if (m.1 123 6) ≤ v2 then some ((1 : Int32), m) else (fX11_contains v1 v2 m).bind fun (w1 : Int32 × xmm) => if w1.1 = 0 then bX5_isDown_123_2 v1 (v2 + (1 : Int32)) w1.2 else xgd (xinb 8 v2) (if ((w1.2.1 125 (v2).toNatClampNeg) &&& (v1 ^^^ (-1 : Int32))) = 0 then bX5_isDown_123_2 v1 (v2 + (1 : Int32)) w1.2 else some ((0 : Int32), w1.2))) = some z) : bX5_isDown_123_2 v1 v2 m = some z := by
  refine xstI ?_
  show xT 58 1 2 [(0, .ref 123), (1, .int v1), (2, .int v2)] [] m (some (.int z.1), z.2)
  refine e_iload_n rfl rfl (xnm_no rfl) ?_
  refine e_aload_n rfl rfl rfl (xnm_no rfl) ?_
  refine e_getI rfl rfl rfl rfl (xnm_no rfl) ?_
  refine e_icmp_ge (t := 39) rfl rfl (xnm_no rfl) (xnm_no rfl) h (fun h => ?_) (fun h => ?_)
  · refine e_iconst (x := 1) rfl (by decide) (xnm_no rfl) ?_
    cases h
    exact e_retI rfl (by decide)
  · refine e_iload_n rfl rfl (xnm_no rfl) ?_
    refine e_iload_n rfl rfl (xnm_no rfl) ?_
    obtain ⟨w1, hw2, h⟩ := xbd_some h
    refine e_cIS (hc := hw2) (rest := []) rfl rfl rfl rfl rfl rfl rfl rfl (xnm_no rfl) ?_
    refine e_if_eq (t := 33) rfl rfl (xnm_no rfl) (xnm_no rfl) h (fun h => ?_) (fun h => ?_)
    · refine e_iinc (y := 1) rfl rfl rfl (by decide) (xnm_no rfl) ?_
      refine e_goto (t := 2) rfl rfl rfl ?_
      exact xlfI h
    · refine e_aload_n rfl rfl rfl (xnm_no rfl) ?_
      refine e_getR (r := 125) rfl rfl rfl rfl rfl (xnm_no rfl) ?_
      refine e_iload_n rfl rfl (xnm_no rfl) ?_
      obtain ⟨g3, h⟩ := xgd_some h
      refine e_iald rfl g3 (xnm_no rfl) ?_
      refine e_iload_n rfl rfl (xnm_no rfl) ?_
      refine e_iconst (x := -1) rfl (by decide) (xnm_no rfl) ?_
      refine e_ixor rfl (xnm_no rfl) ?_
      refine e_iand rfl (xnm_no rfl) ?_
      refine e_if_eq (t := 33) rfl rfl (xnm_no rfl) (xnm_no rfl) h (fun h => ?_) (fun h => ?_)
      · refine e_iinc (y := 1) rfl rfl rfl (by decide) (xnm_no rfl) ?_
        refine e_goto (t := 2) rfl rfl rfl ?_
        exact xlfI h
      · refine e_iconst (x := 0) rfl (by decide) (xnm_no rfl) ?_
        cases h
        exact e_retI rfl (by decide)
set_option maxRecDepth 4000 in
theorem fX5_countDown_123_i (m : xmm) {z : Int32 × xmm} (h : (bX5_countDown_123_4 (0 : Int32) (0 : Int32) m) = some z) : fX5_countDown_123 m = some z := by
  refine xstI ?_
  show xT 57 2 0 [(0, .ref 123)] [] m (some (.int z.1), z.2)
  refine e_iconst (x := 0) rfl (by decide) (xnm_no rfl) ?_
  refine e_istore_n rfl rfl (xnm_no rfl) ?_
  refine e_iconst (x := 0) rfl (by decide) (xnm_no rfl) ?_
  refine e_istore_n rfl rfl rfl ?_
  exact xlfI h
set_option maxRecDepth 4000 in
theorem bX5_countDown_123_4_i (v1 : Int32) (v2 : Int32) (m : xmm) {z : Int32 × xmm} (h : (if ((1 : Int32) <<< ((m.1 123 6) &&& 31)) ≤ v2 then some (v1, m) else (fX5_isDown_123 v2 m).bind fun (w1 : Int32 × xmm) => if w1.1 = 0 then bX5_countDown_123_4 v1 (v2 + (1 : Int32)) w1.2 else bX5_countDown_123_4 (v1 + (1 : Int32)) (v2 + (1 : Int32)) w1.2) = some z) : bX5_countDown_123_4 v1 v2 m = some z := by
  refine xstI ?_
  show xT 57 2 4 [(0, .ref 123), (1, .int v1), (2, .int v2)] [] m (some (.int z.1), z.2)
  refine e_iload_n rfl rfl (xnm_no rfl) ?_
  refine e_iconst (x := 1) rfl (by decide) (xnm_no rfl) ?_
  refine e_aload_n rfl rfl rfl (xnm_no rfl) ?_
  refine e_getI rfl rfl rfl rfl (xnm_no rfl) ?_
  refine e_ishl rfl (xnm_no rfl) ?_
  refine e_icmp_ge (t := 31) rfl rfl (xnm_no rfl) (xnm_no rfl) h (fun h => ?_) (fun h => ?_)
  · refine e_iload_n rfl rfl (xnm_no rfl) ?_
    cases h
    exact e_retI rfl rfl
  · refine e_aload_n rfl rfl rfl (xnm_no rfl) ?_
    refine e_iload_n rfl rfl (xnm_no rfl) ?_
    obtain ⟨w1, hw2, h⟩ := xbd_some h
    refine e_cIV (hc := hw2) (rest := []) rfl rfl rfl rfl rfl rfl rfl rfl (xnm_no rfl) ?_
    refine e_if_eq (t := 25) rfl rfl (xnm_no rfl) (xnm_no rfl) h (fun h => ?_) (fun h => ?_)
    · refine e_iinc (y := 1) rfl rfl rfl (by decide) (xnm_no rfl) ?_
      refine e_goto (t := 4) rfl rfl rfl ?_
      exact xlfI h
    · refine e_iinc (y := 1) rfl rfl rfl (by decide) (xnm_no rfl) ?_
      refine e_iinc (y := 1) rfl rfl rfl (by decide) (xnm_no rfl) ?_
      refine e_goto (t := 4) rfl rfl rfl ?_
      exact xlfI h
set_option maxRecDepth 4000 in
theorem fX5_jumpCell_i (v0 : Int32) (v1 : Int32) (m : xmm) {z : Int32 × xmm} (h : (some (((v0 * (8 : Int32)) + v1), m)) = some z) : fX5_jumpCell v0 v1 m = some z := by
  refine xstI ?_
  show xT 62 0 0 [(0, .int v0), (1, .int v1)] [] m (some (.int z.1), z.2)
  refine e_iload_n rfl rfl (xnm_no rfl) ?_
  refine e_bipush (x := 8) rfl (by decide) (xnm_no rfl) ?_
  refine e_imul rfl (xnm_no rfl) ?_
  refine e_iload_n rfl rfl (xnm_no rfl) ?_
  refine e_iadd rfl (xnm_no rfl) ?_
  cases h
  exact e_retI rfl rfl
set_option maxRecDepth 4000 in
theorem fX5_jumpOn_123_i (v1 : Int32) (m : xmm) {z : xmm} (h : (bX5_jumpOn_123_2 v1 (0 : Int32) m) = some z) : fX5_jumpOn_123 v1 m = some z := by
  refine xstV ?_
  show xT 63 2 0 [(0, .ref 123), (1, .int v1)] [] m (none, z)
  refine e_iconst (x := 0) rfl (by decide) (xnm_no rfl) ?_
  refine e_istore_n rfl rfl rfl ?_
  exact xlfV h
set_option maxRecDepth 4000 in
theorem bX5_jumpOn_123_2_i (v1 : Int32) (v2 : Int32) (m : xmm) {z : xmm} (h : (if (m.1 123 6) ≤ v2 then some m else (fX5_jumpCell v1 v2 m).bind fun (w1 : Int32 × xmm) => xgd (xinb 2048 w1.1) (bX5_jumpOn_123_24 v1 v2 (w1.2.1 129 (w1.1).toNatClampNeg) (0 : Int32) w1.2)) = some z) : bX5_jumpOn_123_2 v1 v2 m = some z := by
  refine xstV ?_
  show xT 63 2 2 [(0, .ref 123), (1, .int v1), (2, .int v2)] [] m (none, z)
  refine e_iload_n rfl rfl (xnm_no rfl) ?_
  refine e_aload_n rfl rfl rfl (xnm_no rfl) ?_
  refine e_getI rfl rfl rfl rfl (xnm_no rfl) ?_
  refine e_icmp_ge (t := 112) rfl rfl (xnm_no rfl) (xnm_no rfl) h (fun h => ?_) (fun h => ?_)
  · cases h
    exact e_retV rfl rfl
  · refine e_aload_n rfl rfl rfl (xnm_no rfl) ?_
    refine e_getR (r := 129) rfl rfl rfl rfl rfl (xnm_no rfl) ?_
    refine e_iload_n rfl rfl (xnm_no rfl) ?_
    refine e_iload_n rfl rfl (xnm_no rfl) ?_
    obtain ⟨w1, hw2, h⟩ := xbd_some h
    refine e_cIS (hc := hw2) (rest := [.ref 129]) rfl rfl rfl rfl rfl rfl rfl rfl (xnm_no rfl) ?_
    obtain ⟨g3, h⟩ := xgd_some h
    refine e_iald rfl g3 (xnm_no rfl) ?_
    refine e_istore_n rfl rfl (xnm_no rfl) ?_
    refine e_iconst (x := 0) rfl (by decide) (xnm_no rfl) ?_
    refine e_istore rfl rfl rfl ?_
    exact xlfV h
set_option maxRecDepth 4000 in
theorem bX5_jumpOn_123_24_i (v1 : Int32) (v2 : Int32) (v3 : Int32) (v4 : Int32) (m : xmm) {z : xmm} (h : (if (m.1 123 6) ≤ v4 then bX5_jumpOn_123_2 v1 (v2 + (1 : Int32)) m else if (1000 : Int32) ≤ v3 then bX5_jumpOn_123_2 v1 (v2 + (1 : Int32)) m else (fX5_isNext_123 v1 v4 m).bind fun (w1 : Int32 × xmm) => if w1.1 = 0 then bX5_jumpOn_123_24 v1 v2 v3 (v4 + (1 : Int32)) w1.2 else (fX5_jumpCell (v1 ||| ((1 : Int32) <<< (v4 &&& 31))) v4 w1.2).bind fun (w3 : Int32 × xmm) => xgd (xinb 2048 w3.1) ((fX5_isUnder_123 v2 v4 w3.2).bind fun (w6 : Int32 × xmm) => if w6.1 = 0 then bX5_jumpOn_123_92 v1 v2 v3 v4 w3.1 (w3.2.1 129 (w3.1).toNatClampNeg) v3 (1 : Int32) w6.2 else bX5_jumpOn_123_92 v1 v2 v3 v4 w3.1 (w3.2.1 129 (w3.1).toNatClampNeg) v3 (0 : Int32) w6.2)) = some z) : bX5_jumpOn_123_24 v1 v2 v3 v4 m = some z := by
  refine xstV ?_
  show xT 63 2 24 [(0, .ref 123), (1, .int v1), (2, .int v2), (3, .int v3), (4, .int v4)] [] m (none, z)
  refine e_iload rfl rfl (xnm_no rfl) ?_
  refine e_aload_n rfl rfl rfl (xnm_no rfl) ?_
  refine e_getI rfl rfl rfl rfl (xnm_no rfl) ?_
  refine e_icmp_ge (t := 106) rfl rfl (xnm_no rfl) (xnm_no rfl) h (fun h => ?_) (fun h => ?_)
  · refine e_iinc (y := 1) rfl rfl rfl (by decide) (xnm_no rfl) ?_
    refine e_goto (t := 2) rfl rfl rfl ?_
    exact xlfV h
  · refine e_iload_n rfl rfl (xnm_no rfl) ?_
    refine e_sipush (x := 1000) rfl (by decide) (xnm_no rfl) ?_
    refine e_icmp_ge (t := 106) rfl rfl (xnm_no rfl) (xnm_no rfl) h (fun h => ?_) (fun h => ?_)
    · refine e_iinc (y := 1) rfl rfl rfl (by decide) (xnm_no rfl) ?_
      refine e_goto (t := 2) rfl rfl rfl ?_
      exact xlfV h
    · refine e_aload_n rfl rfl rfl (xnm_no rfl) ?_
      refine e_iload_n rfl rfl (xnm_no rfl) ?_
      refine e_iload rfl rfl (xnm_no rfl) ?_
      obtain ⟨w1, hw2, h⟩ := xbd_some h
      refine e_cIV (hc := hw2) (rest := []) rfl rfl rfl rfl rfl rfl rfl rfl (xnm_no rfl) ?_
      refine e_if_eq (t := 100) rfl rfl (xnm_no rfl) (xnm_no rfl) h (fun h => ?_) (fun h => ?_)
      · refine e_iinc (y := 1) rfl rfl rfl (by decide) (xnm_no rfl) ?_
        refine e_goto (t := 24) rfl rfl rfl ?_
        exact xlfV h
      · refine e_iload_n rfl rfl (xnm_no rfl) ?_
        refine e_iconst (x := 1) rfl (by decide) (xnm_no rfl) ?_
        refine e_iload rfl rfl (xnm_no rfl) ?_
        refine e_ishl rfl (xnm_no rfl) ?_
        refine e_ior rfl (xnm_no rfl) ?_
        refine e_iload rfl rfl (xnm_no rfl) ?_
        obtain ⟨w3, hw4, h⟩ := xbd_some h
        refine e_cIS (hc := hw4) (rest := []) rfl rfl rfl rfl rfl rfl rfl rfl (xnm_no rfl) ?_
        refine e_istore rfl rfl (xnm_no rfl) ?_
        refine e_aload_n rfl rfl rfl (xnm_no rfl) ?_
        refine e_getR (r := 129) rfl rfl rfl rfl rfl (xnm_no rfl) ?_
        refine e_iload rfl rfl (xnm_no rfl) ?_
        refine e_aload_n rfl rfl rfl (xnm_no rfl) ?_
        refine e_getR (r := 129) rfl rfl rfl rfl rfl (xnm_no rfl) ?_
        refine e_iload rfl rfl (xnm_no rfl) ?_
        obtain ⟨g5, h⟩ := xgd_some h
        refine e_iald rfl g5 (xnm_no rfl) ?_
        refine e_iload_n rfl rfl (xnm_no rfl) ?_
        refine e_aload_n rfl rfl rfl (xnm_no rfl) ?_
        refine e_iload_n rfl rfl (xnm_no rfl) ?_
        refine e_iload rfl rfl (xnm_no rfl) ?_
        obtain ⟨w6, hw7, h⟩ := xbd_some h
        refine e_cIV (hc := hw7) (rest := [.int _, .int _, .int _, .ref 129]) rfl rfl rfl rfl rfl rfl rfl rfl (xnm_no rfl) ?_
        refine e_if_ne (t := 91) rfl rfl (xnm_no rfl) (xnm_no rfl) h (fun h => ?_) (fun h => ?_)
        · refine e_iconst (x := 0) rfl (by decide) rfl ?_
          exact xlfV h
        · refine e_iconst (x := 1) rfl (by decide) (xnm_no rfl) ?_
          refine e_goto (t := 92) rfl rfl rfl ?_
          exact xlfV h
set_option maxRecDepth 4000 in
theorem bX5_jumpOn_123_92_i (v1 : Int32) (v2 : Int32) (v3 : Int32) (v4 : Int32) (s1 : Int32) (s2 : Int32) (s3 : Int32) (s4 : Int32) (m : xmm) {z : xmm} (h : ((fX11_bit s4 m).bind fun (w1 : Int32 × xmm) => xgd (xinb 2048 s1) (xlt (xwi w1.2 129 (s1).toNatClampNeg (if (s3 + w1.1) < s2 then (s3 + w1.1) else s2)) fun (m4 : xmm) => bX5_jumpOn_123_24 v1 v2 v3 (v4 + (1 : Int32)) m4)) = some z) : bX5_jumpOn_123_92 v1 v2 v3 v4 s1 s2 s3 s4 m = some z := by
  refine xstV ?_
  show xT 63 2 92 [(0, .ref 123), (1, .int v1), (2, .int v2), (3, .int v3), (4, .int v4)] [.int s4, .int s3, .int s2, .int s1, .ref 129] m (none, z)
  obtain ⟨w1, hw2, h⟩ := xbd_some h
  refine e_cIS (hc := hw2) (rest := [.int _, .int _, .int _, .ref 129]) rfl rfl rfl rfl rfl rfl rfl rfl (xnm_no rfl) ?_
  refine e_iadd rfl (xnm_no rfl) ?_
  refine e_min rfl rfl rfl (xnm_no rfl) ?_
  obtain ⟨g3, h⟩ := xgd_some h
  refine e_iast rfl g3 (xnm_no rfl) ?_
  replace h := xlt_b h
  refine e_iinc (y := 1) rfl rfl rfl (by decide) (xnm_no rfl) ?_
  refine e_goto (t := 24) rfl rfl rfl ?_
  exact xlfV h
set_option maxRecDepth 4000 in
theorem fX5_fewestJumps_123_i (m : xmm) {z : Int32 × xmm} (h : (bX5_fewestJumps_123_10 ((8 : Int32) <<< ((m.1 123 6) &&& 31)) (0 : Int32) m) = some z) : fX5_fewestJumps_123 m = some z := by
  refine xstI ?_
  show xT 61 3 0 [(0, .ref 123)] [] m (some (.int z.1), z.2)
  refine e_bipush (x := 8) rfl (by decide) (xnm_no rfl) ?_
  refine e_aload_n rfl rfl rfl (xnm_no rfl) ?_
  refine e_getI rfl rfl rfl rfl (xnm_no rfl) ?_
  refine e_ishl rfl (xnm_no rfl) ?_
  refine e_istore_n rfl rfl (xnm_no rfl) ?_
  refine e_iconst (x := 0) rfl (by decide) (xnm_no rfl) ?_
  refine e_istore_n rfl rfl rfl ?_
  exact xlfI h
set_option maxRecDepth 4000 in
theorem bX5_fewestJumps_123_10_i (v1 : Int32) (v2 : Int32) (m : xmm) {z : Int32 × xmm} (h : (if v1 ≤ v2 then bX5_fewestJumps_123_41 (0 : Int32) m else if (2048 : Int32) ≤ v2 then bX5_fewestJumps_123_41 (0 : Int32) m else xgd (xinb 2048 v2) (xlt (xwi m 129 (v2).toNatClampNeg (1000 : Int32)) fun (m2 : xmm) => bX5_fewestJumps_123_10 v1 (v2 + (1 : Int32)) m2)) = some z) : bX5_fewestJumps_123_10 v1 v2 m = some z := by
  refine xstI ?_
  show xT 61 3 10 [(0, .ref 123), (1, .int v1), (2, .int v2)] [] m (some (.int z.1), z.2)
  refine e_iload_n rfl rfl (xnm_no rfl) ?_
  refine e_iload_n rfl rfl (xnm_no rfl) ?_
  refine e_icmp_ge (t := 39) rfl rfl (xnm_no rfl) (xnm_no rfl) h (fun h => ?_) (fun h => ?_)
  · refine e_iconst (x := 0) rfl (by decide) (xnm_no rfl) ?_
    refine e_istore_n rfl rfl rfl ?_
    exact xlfI h
  · refine e_iload_n rfl rfl (xnm_no rfl) ?_
    refine e_aload_n rfl rfl rfl (xnm_no rfl) ?_
    refine e_getR (r := 129) rfl rfl rfl rfl rfl (xnm_no rfl) ?_
    refine e_alen (v := 2048) rfl rfl (xnm_no rfl) ?_
    refine e_icmp_ge (t := 39) rfl rfl (xnm_no rfl) (xnm_no rfl) h (fun h => ?_) (fun h => ?_)
    · refine e_iconst (x := 0) rfl (by decide) (xnm_no rfl) ?_
      refine e_istore_n rfl rfl rfl ?_
      exact xlfI h
    · refine e_aload_n rfl rfl rfl (xnm_no rfl) ?_
      refine e_getR (r := 129) rfl rfl rfl rfl rfl (xnm_no rfl) ?_
      refine e_iload_n rfl rfl (xnm_no rfl) ?_
      refine e_sipush (x := 1000) rfl (by decide) (xnm_no rfl) ?_
      obtain ⟨g1, h⟩ := xgd_some h
      refine e_iast rfl g1 (xnm_no rfl) ?_
      replace h := xlt_b h
      refine e_iinc (y := 1) rfl rfl rfl (by decide) (xnm_no rfl) ?_
      refine e_goto (t := 10) rfl rfl rfl ?_
      exact xlfI h
set_option maxRecDepth 4000 in
theorem bX5_fewestJumps_123_41_i (v2 : Int32) (m : xmm) {z : Int32 × xmm} (h : (if (m.1 123 6) ≤ v2 then bX5_fewestJumps_123_88 (((1 : Int32) <<< ((m.1 123 6) &&& 31)) - (1 : Int32)) (0 : Int32) m else (fX5_isNext_123 (0 : Int32) v2 m).bind fun (w1 : Int32 × xmm) => if w1.1 = 0 then bX5_fewestJumps_123_41 (v2 + (1 : Int32)) w1.2 else (fX5_jumpCell ((1 : Int32) <<< (v2 &&& 31)) v2 w1.2).bind fun (w3 : Int32 × xmm) => xgd (xinb 2048 w3.1) (xlt (xwi w3.2 129 (w3.1).toNatClampNeg (0 : Int32)) fun (m6 : xmm) => bX5_fewestJumps_123_41 (v2 + (1 : Int32)) m6)) = some z) : bX5_fewestJumps_123_41 v2 m = some z := by
  refine xstI ?_
  show xT 61 3 41 [(0, .ref 123), (2, .int v2)] [] m (some (.int z.1), z.2)
  refine e_iload_n rfl rfl (xnm_no rfl) ?_
  refine e_aload_n rfl rfl rfl (xnm_no rfl) ?_
  refine e_getI rfl rfl rfl rfl (xnm_no rfl) ?_
  refine e_icmp_ge (t := 77) rfl rfl (xnm_no rfl) (xnm_no rfl) h (fun h => ?_) (fun h => ?_)
  · refine e_iconst (x := 1) rfl (by decide) (xnm_no rfl) ?_
    refine e_aload_n rfl rfl rfl (xnm_no rfl) ?_
    refine e_getI rfl rfl rfl rfl (xnm_no rfl) ?_
    refine e_ishl rfl (xnm_no rfl) ?_
    refine e_iconst (x := 1) rfl (by decide) (xnm_no rfl) ?_
    refine e_isub rfl (xnm_no rfl) ?_
    refine e_istore_n rfl rfl (xnm_no rfl) ?_
    refine e_iconst (x := 0) rfl (by decide) (xnm_no rfl) ?_
    refine e_istore_n rfl rfl rfl ?_
    exact xlfI h
  · refine e_aload_n rfl rfl rfl (xnm_no rfl) ?_
    refine e_iconst (x := 0) rfl (by decide) (xnm_no rfl) ?_
    refine e_iload_n rfl rfl (xnm_no rfl) ?_
    obtain ⟨w1, hw2, h⟩ := xbd_some h
    refine e_cIV (hc := hw2) (rest := []) rfl rfl rfl rfl rfl rfl rfl rfl (xnm_no rfl) ?_
    refine e_if_eq (t := 71) rfl rfl (xnm_no rfl) (xnm_no rfl) h (fun h => ?_) (fun h => ?_)
    · refine e_iinc (y := 1) rfl rfl rfl (by decide) (xnm_no rfl) ?_
      refine e_goto (t := 41) rfl rfl rfl ?_
      exact xlfI h
    · refine e_aload_n rfl rfl rfl (xnm_no rfl) ?_
      refine e_getR (r := 129) rfl rfl rfl rfl rfl (xnm_no rfl) ?_
      refine e_iconst (x := 1) rfl (by decide) (xnm_no rfl) ?_
      refine e_iload_n rfl rfl (xnm_no rfl) ?_
      refine e_ishl rfl (xnm_no rfl) ?_
      refine e_iload_n rfl rfl (xnm_no rfl) ?_
      obtain ⟨w3, hw4, h⟩ := xbd_some h
      refine e_cIS (hc := hw4) (rest := [.ref 129]) rfl rfl rfl rfl rfl rfl rfl rfl (xnm_no rfl) ?_
      refine e_iconst (x := 0) rfl (by decide) (xnm_no rfl) ?_
      obtain ⟨g5, h⟩ := xgd_some h
      refine e_iast rfl g5 (xnm_no rfl) ?_
      replace h := xlt_b h
      refine e_iinc (y := 1) rfl rfl rfl (by decide) (xnm_no rfl) ?_
      refine e_goto (t := 41) rfl rfl rfl ?_
      exact xlfI h
set_option maxRecDepth 4000 in
theorem bX5_fewestJumps_123_88_i (v2 : Int32) (v3 : Int32) (m : xmm) {z : Int32 × xmm} (h : (if v2 ≤ v3 then if (m.1 123 6) = 0 then bX5_fewestJumps_123_122 v2 (0 : Int32) (0 : Int32) m else bX5_fewestJumps_123_122 v2 (1000 : Int32) (0 : Int32) m else (fX5_jumpOn_123 v3 m).bind fun (w1 : xmm) => bX5_fewestJumps_123_88 v2 (v3 + (1 : Int32)) w1) = some z) : bX5_fewestJumps_123_88 v2 v3 m = some z := by
  refine xstI ?_
  show xT 61 3 88 [(0, .ref 123), (2, .int v2), (3, .int v3)] [] m (some (.int z.1), z.2)
  refine e_iload_n rfl rfl (xnm_no rfl) ?_
  refine e_iload_n rfl rfl (xnm_no rfl) ?_
  refine e_icmp_ge (t := 104) rfl rfl (xnm_no rfl) (xnm_no rfl) h (fun h => ?_) (fun h => ?_)
  · refine e_aload_n rfl rfl rfl (xnm_no rfl) ?_
    refine e_getI rfl rfl rfl rfl (xnm_no rfl) ?_
    refine e_if_ne (t := 115) rfl rfl (xnm_no rfl) (xnm_no rfl) h (fun h => ?_) (fun h => ?_)
    · refine e_sipush (x := 1000) rfl (by decide) (xnm_no rfl) ?_
      refine e_istore_n rfl rfl (xnm_no rfl) ?_
      refine e_iconst (x := 0) rfl (by decide) (xnm_no rfl) ?_
      refine e_istore rfl rfl rfl ?_
      exact xlfI h
    · refine e_iconst (x := 0) rfl (by decide) (xnm_no rfl) ?_
      refine e_goto (t := 118) rfl rfl (xnm_no rfl) ?_
      refine e_istore_n rfl rfl (xnm_no rfl) ?_
      refine e_iconst (x := 0) rfl (by decide) (xnm_no rfl) ?_
      refine e_istore rfl rfl rfl ?_
      exact xlfI h
  · refine e_aload_n rfl rfl rfl (xnm_no rfl) ?_
    refine e_iload_n rfl rfl (xnm_no rfl) ?_
    obtain ⟨w1, hw2, h⟩ := xbd_some h
    refine e_cVV (hc := hw2) (rest := []) rfl rfl rfl rfl rfl rfl rfl rfl (xnm_no rfl) ?_
    refine e_iinc (y := 1) rfl rfl rfl (by decide) (xnm_no rfl) ?_
    refine e_goto (t := 88) rfl rfl rfl ?_
    exact xlfI h
set_option maxRecDepth 4000 in
theorem bX5_fewestJumps_123_122_i (v2 : Int32) (v3 : Int32) (v4 : Int32) (m : xmm) {z : Int32 × xmm} (h : (if (m.1 123 6) ≤ v4 then some (v3, m) else (fX5_jumpCell v2 v4 m).bind fun (w1 : Int32 × xmm) => xgd (xinb 2048 w1.1) (xlt (if (w1.2.1 129 (w1.1).toNatClampNeg) < v3 then (w1.2.1 129 (w1.1).toNatClampNeg) else v3) fun (x4 : Int32) => bX5_fewestJumps_123_122 v2 x4 (v4 + (1 : Int32)) w1.2)) = some z) : bX5_fewestJumps_123_122 v2 v3 v4 m = some z := by
  refine xstI ?_
  show xT 61 3 122 [(0, .ref 123), (2, .int v2), (3, .int v3), (4, .int v4)] [] m (some (.int z.1), z.2)
  refine e_iload rfl rfl (xnm_no rfl) ?_
  refine e_aload_n rfl rfl rfl (xnm_no rfl) ?_
  refine e_getI rfl rfl rfl rfl (xnm_no rfl) ?_
  refine e_icmp_ge (t := 153) rfl rfl (xnm_no rfl) (xnm_no rfl) h (fun h => ?_) (fun h => ?_)
  · refine e_iload_n rfl rfl (xnm_no rfl) ?_
    cases h
    exact e_retI rfl rfl
  · refine e_iload_n rfl rfl (xnm_no rfl) ?_
    refine e_aload_n rfl rfl rfl (xnm_no rfl) ?_
    refine e_getR (r := 129) rfl rfl rfl rfl rfl (xnm_no rfl) ?_
    refine e_iload_n rfl rfl (xnm_no rfl) ?_
    refine e_iload rfl rfl (xnm_no rfl) ?_
    obtain ⟨w1, hw2, h⟩ := xbd_some h
    refine e_cIS (hc := hw2) (rest := [.ref 129, .int _]) rfl rfl rfl rfl rfl rfl rfl rfl (xnm_no rfl) ?_
    obtain ⟨g3, h⟩ := xgd_some h
    refine e_iald rfl g3 (xnm_no rfl) ?_
    refine e_min rfl rfl rfl (xnm_no rfl) ?_
    replace h := xlt_b h
    refine e_istore_n rfl rfl (xnm_no rfl) ?_
    refine e_iinc (y := 1) rfl rfl rfl (by decide) (xnm_no rfl) ?_
    refine e_goto (t := 122) rfl rfl rfl ?_
    exact xlfI h
set_option maxRecDepth 4000 in
theorem fX11_order_0_i (v1 : Int32) (m : xmm) {z : Int32 × xmm} (h : (if v1 < 0 then some ((-1 : Int32), m) else if v1 ≤ (9 : Int32) then (fX11_study_0 m).bind fun (w1 : xmm) => (fX1_isOrdered_97 w1).bind fun (w3 : Int32 × xmm) => if w3.1 = 0 then some ((-2 : Int32), w3.2) else if v1 = 0 then (fX5_countStraight_123 w3.2).bind fun (w6 : Int32 × xmm) => some (w6.1, w6.2) else if v1 = 1 then (fX5_countCovers_123 w3.2).bind fun (w9 : Int32 × xmm) => some (w9.1, w9.2) else if v1 = 2 then (fX3_everyPost 10 w3.2).bind fun (w12 : Int32 × xmm) => (fX9_greatestApart 13 w12.1 w12.2).bind fun (w14 : Int32 × xmm) => (fJ6_bitCount w14.1 w14.2).bind fun (w16 : Int32 × xmm) => some (w16.1, w16.2) else if v1 = 3 then (fX3_everyPost 10 w3.2).bind fun (w19 : Int32 × xmm) => (fX9_greatestApart 13 w19.1 w19.2).bind fun (w21 : Int32 × xmm) => some (w21.1, w21.2) else if v1 = 4 then (fX3_everyPost 10 w3.2).bind fun (w24 : Int32 × xmm) => (fX9_greatestApart 11 w24.1 w24.2).bind fun (w26 : Int32 × xmm) => (fJ6_bitCount w26.1 w26.2).bind fun (w28 : Int32 × xmm) => some (w28.1, w28.2) else if v1 = 5 then (fX3_everyPost 10 w3.2).bind fun (w31 : Int32 × xmm) => (fX9_greatestApart 11 w31.1 w31.2).bind fun (w33 : Int32 × xmm) => some (w33.1, w33.2) else if v1 = 6 then (fX10_share_132_10 w3.2).bind fun (w36 : Int32 × xmm) => some (w36.1, w36.2) else if v1 = 7 then (fX5_greatestLevel_123 w3.2).bind fun (w39 : Int32 × xmm) => some (w39.1, w39.2) else if v1 = 8 then (fX5_countDown_123 w3.2).bind fun (w42 : Int32 × xmm) => some (w42.1, w42.2) else (fX5_fewestJumps_123 w3.2).bind fun (w44 : Int32 × xmm) => some (w44.1, w44.2) else some ((-1 : Int32), m)) = some z) : fX11_order_0 v1 m = some z := by
  refine xstI ?_
  show xT 134 11 0 [(0, .ref 0), (1, .int v1)] [] m (some (.int z.1), z.2)
  refine e_iload_n rfl rfl (xnm_no rfl) ?_
  refine e_if_lt (t := 10) rfl rfl (xnm_no rfl) (xnm_no rfl) h (fun h => ?_) (fun h => ?_)
  · refine e_iconst (x := -1) rfl (by decide) (xnm_no rfl) ?_
    cases h
    exact e_retI rfl rfl
  · refine e_iload_n rfl rfl (xnm_no rfl) ?_
    refine e_bipush (x := 9) rfl (by decide) (xnm_no rfl) ?_
    refine e_icmp_le (t := 12) rfl rfl (xnm_no rfl) (xnm_no rfl) h (fun h => ?_) (fun h => ?_)
    · refine e_aload_n rfl rfl rfl (xnm_no rfl) ?_
      obtain ⟨w1, hw2, h⟩ := xbd_some h
      refine e_cVV (hc := hw2) (rest := []) rfl rfl rfl rfl rfl rfl rfl rfl (xnm_no rfl) ?_
      refine e_aload_n rfl rfl rfl (xnm_no rfl) ?_
      refine e_getR (r := 97) rfl rfl rfl rfl rfl (xnm_no rfl) ?_
      obtain ⟨w3, hw4, h⟩ := xbd_some h
      refine e_cIV (hc := hw4) (rest := []) rfl rfl rfl rfl rfl rfl rfl rfl (xnm_no rfl) ?_
      refine e_if_ne (t := 29) rfl rfl (xnm_no rfl) (xnm_no rfl) h (fun h => ?_) (fun h => ?_)
      · refine e_iload_n rfl rfl (xnm_no rfl) ?_
        by_cases c5 : v1 = 0
        · rw [if_pos c5] at h
          refine e_sw (t := 80) (o := 50) rfl (by decide) (xsw_p c5) rfl (xnm_no rfl) ?_
          refine e_aload_n rfl rfl rfl (xnm_no rfl) ?_
          refine e_getR (r := 123) rfl rfl rfl rfl rfl (xnm_no rfl) ?_
          obtain ⟨w6, hw7, h⟩ := xbd_some h
          refine e_cIV (hc := hw7) (rest := []) rfl rfl rfl rfl rfl rfl rfl rfl (xnm_no rfl) ?_
          cases h
          exact e_retI rfl rfl
        · rw [if_neg c5] at h
          by_cases c8 : v1 = 1
          · rw [if_pos c8] at h
            refine e_sw (t := 88) (o := 58) rfl (by decide) (xsw_n c5 (xsw_p c8)) rfl (xnm_no rfl) ?_
            refine e_aload_n rfl rfl rfl (xnm_no rfl) ?_
            refine e_getR (r := 123) rfl rfl rfl rfl rfl (xnm_no rfl) ?_
            obtain ⟨w9, hw10, h⟩ := xbd_some h
            refine e_cIV (hc := hw10) (rest := []) rfl rfl rfl rfl rfl rfl rfl rfl (xnm_no rfl) ?_
            cases h
            exact e_retI rfl rfl
          · rw [if_neg c8] at h
            by_cases c11 : v1 = 2
            · rw [if_pos c11] at h
              refine e_sw (t := 96) (o := 66) rfl (by decide) (xsw_n c5 (xsw_n c8 (xsw_p c11))) rfl (xnm_no rfl) ?_
              refine e_aload_n rfl rfl rfl (xnm_no rfl) ?_
              refine e_getR (r := 12) rfl rfl rfl rfl rfl (xnm_no rfl) ?_
              refine e_getR (r := 13) rfl rfl rfl rfl rfl (xnm_no rfl) ?_
              refine e_aload_n rfl rfl rfl (xnm_no rfl) ?_
              refine e_getR (r := 10) rfl rfl rfl rfl rfl (xnm_no rfl) ?_
              obtain ⟨w12, hw13, h⟩ := xbd_some h
              refine e_cIV (hc := hw13) (rest := [.ref 13]) rfl rfl rfl rfl rfl rfl rfl rfl (xnm_no rfl) ?_
              obtain ⟨w14, hw15, h⟩ := xbd_some h
              refine e_cIS (hc := hw15) (rest := []) rfl rfl rfl rfl rfl rfl rfl rfl (xnm_no rfl) ?_
              obtain ⟨w16, hw17, h⟩ := xbd_some h
              refine e_cIS (hc := hw17) (rest := []) rfl rfl rfl rfl rfl rfl rfl rfl (xnm_no rfl) ?_
              cases h
              exact e_retI rfl rfl
            · rw [if_neg c11] at h
              by_cases c18 : v1 = 3
              · rw [if_pos c18] at h
                refine e_sw (t := 117) (o := 87) rfl (by decide) (xsw_n c5 (xsw_n c8 (xsw_n c11 (xsw_p c18)))) rfl (xnm_no rfl) ?_
                refine e_aload_n rfl rfl rfl (xnm_no rfl) ?_
                refine e_getR (r := 12) rfl rfl rfl rfl rfl (xnm_no rfl) ?_
                refine e_getR (r := 13) rfl rfl rfl rfl rfl (xnm_no rfl) ?_
                refine e_aload_n rfl rfl rfl (xnm_no rfl) ?_
                refine e_getR (r := 10) rfl rfl rfl rfl rfl (xnm_no rfl) ?_
                obtain ⟨w19, hw20, h⟩ := xbd_some h
                refine e_cIV (hc := hw20) (rest := [.ref 13]) rfl rfl rfl rfl rfl rfl rfl rfl (xnm_no rfl) ?_
                obtain ⟨w21, hw22, h⟩ := xbd_some h
                refine e_cIS (hc := hw22) (rest := []) rfl rfl rfl rfl rfl rfl rfl rfl (xnm_no rfl) ?_
                cases h
                exact e_retI rfl rfl
              · rw [if_neg c18] at h
                by_cases c23 : v1 = 4
                · rw [if_pos c23] at h
                  refine e_sw (t := 135) (o := 105) rfl (by decide) (xsw_n c5 (xsw_n c8 (xsw_n c11 (xsw_n c18 (xsw_p c23))))) rfl (xnm_no rfl) ?_
                  refine e_aload_n rfl rfl rfl (xnm_no rfl) ?_
                  refine e_getR (r := 10) rfl rfl rfl rfl rfl (xnm_no rfl) ?_
                  refine e_getR (r := 11) rfl rfl rfl rfl rfl (xnm_no rfl) ?_
                  refine e_aload_n rfl rfl rfl (xnm_no rfl) ?_
                  refine e_getR (r := 10) rfl rfl rfl rfl rfl (xnm_no rfl) ?_
                  obtain ⟨w24, hw25, h⟩ := xbd_some h
                  refine e_cIV (hc := hw25) (rest := [.ref 11]) rfl rfl rfl rfl rfl rfl rfl rfl (xnm_no rfl) ?_
                  obtain ⟨w26, hw27, h⟩ := xbd_some h
                  refine e_cIS (hc := hw27) (rest := []) rfl rfl rfl rfl rfl rfl rfl rfl (xnm_no rfl) ?_
                  obtain ⟨w28, hw29, h⟩ := xbd_some h
                  refine e_cIS (hc := hw29) (rest := []) rfl rfl rfl rfl rfl rfl rfl rfl (xnm_no rfl) ?_
                  cases h
                  exact e_retI rfl rfl
                · rw [if_neg c23] at h
                  by_cases c30 : v1 = 5
                  · rw [if_pos c30] at h
                    refine e_sw (t := 156) (o := 126) rfl (by decide) (xsw_n c5 (xsw_n c8 (xsw_n c11 (xsw_n c18 (xsw_n c23 (xsw_p c30)))))) rfl (xnm_no rfl) ?_
                    refine e_aload_n rfl rfl rfl (xnm_no rfl) ?_
                    refine e_getR (r := 10) rfl rfl rfl rfl rfl (xnm_no rfl) ?_
                    refine e_getR (r := 11) rfl rfl rfl rfl rfl (xnm_no rfl) ?_
                    refine e_aload_n rfl rfl rfl (xnm_no rfl) ?_
                    refine e_getR (r := 10) rfl rfl rfl rfl rfl (xnm_no rfl) ?_
                    obtain ⟨w31, hw32, h⟩ := xbd_some h
                    refine e_cIV (hc := hw32) (rest := [.ref 11]) rfl rfl rfl rfl rfl rfl rfl rfl (xnm_no rfl) ?_
                    obtain ⟨w33, hw34, h⟩ := xbd_some h
                    refine e_cIS (hc := hw34) (rest := []) rfl rfl rfl rfl rfl rfl rfl rfl (xnm_no rfl) ?_
                    cases h
                    exact e_retI rfl rfl
                  · rw [if_neg c30] at h
                    by_cases c35 : v1 = 6
                    · rw [if_pos c35] at h
                      refine e_sw (t := 174) (o := 144) rfl (by decide) (xsw_n c5 (xsw_n c8 (xsw_n c11 (xsw_n c18 (xsw_n c23 (xsw_n c30 (xsw_p c35))))))) rfl (xnm_no rfl) ?_
                      refine e_aload_n rfl rfl rfl (xnm_no rfl) ?_
                      refine e_getR (r := 132) rfl rfl rfl rfl rfl (xnm_no rfl) ?_
                      refine e_aload_n rfl rfl rfl (xnm_no rfl) ?_
                      refine e_getR (r := 10) rfl rfl rfl rfl rfl (xnm_no rfl) ?_
                      obtain ⟨w36, hw37, h⟩ := xbd_some h
                      refine e_cIV (hc := hw37) (rest := []) rfl rfl rfl rfl rfl rfl rfl rfl (xnm_no rfl) ?_
                      cases h
                      exact e_retI rfl rfl
                    · rw [if_neg c35] at h
                      by_cases c38 : v1 = 7
                      · rw [if_pos c38] at h
                        refine e_sw (t := 186) (o := 156) rfl (by decide) (xsw_n c5 (xsw_n c8 (xsw_n c11 (xsw_n c18 (xsw_n c23 (xsw_n c30 (xsw_n c35 (xsw_p c38)))))))) rfl (xnm_no rfl) ?_
                        refine e_aload_n rfl rfl rfl (xnm_no rfl) ?_
                        refine e_getR (r := 123) rfl rfl rfl rfl rfl (xnm_no rfl) ?_
                        obtain ⟨w39, hw40, h⟩ := xbd_some h
                        refine e_cIV (hc := hw40) (rest := []) rfl rfl rfl rfl rfl rfl rfl rfl (xnm_no rfl) ?_
                        cases h
                        exact e_retI rfl rfl
                      · rw [if_neg c38] at h
                        by_cases c41 : v1 = 8
                        · rw [if_pos c41] at h
                          refine e_sw (t := 194) (o := 164) rfl (by decide) (xsw_n c5 (xsw_n c8 (xsw_n c11 (xsw_n c18 (xsw_n c23 (xsw_n c30 (xsw_n c35 (xsw_n c38 (xsw_p c41))))))))) rfl (xnm_no rfl) ?_
                          refine e_aload_n rfl rfl rfl (xnm_no rfl) ?_
                          refine e_getR (r := 123) rfl rfl rfl rfl rfl (xnm_no rfl) ?_
                          obtain ⟨w42, hw43, h⟩ := xbd_some h
                          refine e_cIV (hc := hw43) (rest := []) rfl rfl rfl rfl rfl rfl rfl rfl (xnm_no rfl) ?_
                          cases h
                          exact e_retI rfl rfl
                        · rw [if_neg c41] at h
                          refine e_sw (t := 202) (o := 172) rfl (by decide) (xsw_n c5 (xsw_n c8 (xsw_n c11 (xsw_n c18 (xsw_n c23 (xsw_n c30 (xsw_n c35 (xsw_n c38 (xsw_n c41 xsw_d))))))))) rfl (xnm_no rfl) ?_
                          refine e_aload_n rfl rfl rfl (xnm_no rfl) ?_
                          refine e_getR (r := 123) rfl rfl rfl rfl rfl (xnm_no rfl) ?_
                          obtain ⟨w44, hw45, h⟩ := xbd_some h
                          refine e_cIV (hc := hw45) (rest := []) rfl rfl rfl rfl rfl rfl rfl rfl (xnm_no rfl) ?_
                          cases h
                          exact e_retI rfl rfl
      · refine e_bipush (x := -2) rfl (by decide) (xnm_no rfl) ?_
        cases h
        exact e_retI rfl rfl
    · refine e_iconst (x := -1) rfl (by decide) (xnm_no rfl) ?_
      cases h
      exact e_retI rfl rfl
set_option maxRecDepth 4000 in
theorem fX12_straights_144_i (m : xmm) {z : Int32 × xmm} (h : (xlt (xwi m 174 0 (1 : Int32)) fun (m1 : xmm) => bX12_straights_144_9 (1 : Int32) m1) = some z) : fX12_straights_144 m = some z := by
  refine xstI ?_
  show xT 228 1 0 [(0, .ref 144)] [] m (some (.int z.1), z.2)
  refine e_aload_n rfl rfl rfl (xnm_no rfl) ?_
  refine e_getR (r := 174) rfl rfl rfl rfl rfl (xnm_no rfl) ?_
  refine e_iconst (x := 0) rfl (by decide) (xnm_no rfl) ?_
  refine e_iconst (x := 1) rfl (by decide) (xnm_no rfl) ?_
  refine e_iast rfl (by decide) (xnm_no rfl) ?_
  replace h := xlt_b h
  refine e_iconst (x := 1) rfl (by decide) (xnm_no rfl) ?_
  refine e_istore_n rfl rfl rfl ?_
  exact xlfI h
set_option maxRecDepth 4000 in
theorem bX12_straights_144_9_i (v1 : Int32) (m : xmm) {z : Int32 × xmm} (h : (if ((1 : Int32) <<< ((m.1 144 17) &&& 31)) ≤ v1 then xgd (xinb 256 (((1 : Int32) <<< ((m.1 144 17) &&& 31)) - (1 : Int32))) (some ((m.1 174 ((((1 : Int32) <<< ((m.1 144 17) &&& 31)) - (1 : Int32))).toNatClampNeg), m)) else xgd (xinb 256 v1) (xlt (xwi m 174 (v1).toNatClampNeg (0 : Int32)) fun (m3 : xmm) => bX12_straights_144_28 v1 (0 : Int32) m3)) = some z) : bX12_straights_144_9 v1 m = some z := by
  refine xstI ?_
  show xT 228 1 9 [(0, .ref 144), (1, .int v1)] [] m (some (.int z.1), z.2)
  refine e_iload_n rfl rfl (xnm_no rfl) ?_
  refine e_iconst (x := 1) rfl (by decide) (xnm_no rfl) ?_
  refine e_aload_n rfl rfl rfl (xnm_no rfl) ?_
  refine e_getI rfl rfl rfl rfl (xnm_no rfl) ?_
  refine e_ishl rfl (xnm_no rfl) ?_
  refine e_icmp_ge (t := 86) rfl rfl (xnm_no rfl) (xnm_no rfl) h (fun h => ?_) (fun h => ?_)
  · refine e_aload_n rfl rfl rfl (xnm_no rfl) ?_
    refine e_getR (r := 174) rfl rfl rfl rfl rfl (xnm_no rfl) ?_
    refine e_iconst (x := 1) rfl (by decide) (xnm_no rfl) ?_
    refine e_aload_n rfl rfl rfl (xnm_no rfl) ?_
    refine e_getI rfl rfl rfl rfl (xnm_no rfl) ?_
    refine e_ishl rfl (xnm_no rfl) ?_
    refine e_iconst (x := 1) rfl (by decide) (xnm_no rfl) ?_
    refine e_isub rfl (xnm_no rfl) ?_
    obtain ⟨g1, h⟩ := xgd_some h
    refine e_iald rfl g1 (xnm_no rfl) ?_
    cases h
    exact e_retI rfl rfl
  · refine e_aload_n rfl rfl rfl (xnm_no rfl) ?_
    refine e_getR (r := 174) rfl rfl rfl rfl rfl (xnm_no rfl) ?_
    refine e_iload_n rfl rfl (xnm_no rfl) ?_
    refine e_iconst (x := 0) rfl (by decide) (xnm_no rfl) ?_
    obtain ⟨g2, h⟩ := xgd_some h
    refine e_iast rfl g2 (xnm_no rfl) ?_
    replace h := xlt_b h
    refine e_iconst (x := 0) rfl (by decide) (xnm_no rfl) ?_
    refine e_istore_n rfl rfl rfl ?_
    exact xlfI h
set_option maxRecDepth 4000 in
theorem bX12_straights_144_28_i (v1 : Int32) (v2 : Int32) (m : xmm) {z : Int32 × xmm} (h : (if (m.1 144 17) ≤ v2 then bX12_straights_144_9 (v1 + (1 : Int32)) m else (fX12_has v1 v2 m).bind fun (w1 : Int32 × xmm) => if w1.1 = 0 then bX12_straights_144_28 v1 (v2 + (1 : Int32)) w1.2 else xgd (xinb 8 v2) (if ((w1.2.1 164 (v2).toNatClampNeg) &&& v1) = 0 then xgd (xinb 256 v1) (xgd (xinb 256 (v1 ^^^ ((1 : Int32) <<< (v2 &&& 31)))) (xlt (xwi w1.2 174 (v1).toNatClampNeg ((w1.2.1 174 (v1).toNatClampNeg) + (w1.2.1 174 ((v1 ^^^ ((1 : Int32) <<< (v2 &&& 31)))).toNatClampNeg))) fun (m6 : xmm) => bX12_straights_144_28 v1 (v2 + (1 : Int32)) m6)) else bX12_straights_144_28 v1 (v2 + (1 : Int32)) w1.2)) = some z) : bX12_straights_144_28 v1 v2 m = some z := by
  refine xstI ?_
  show xT 228 1 28 [(0, .ref 144), (1, .int v1), (2, .int v2)] [] m (some (.int z.1), z.2)
  refine e_iload_n rfl rfl (xnm_no rfl) ?_
  refine e_aload_n rfl rfl rfl (xnm_no rfl) ?_
  refine e_getI rfl rfl rfl rfl (xnm_no rfl) ?_
  refine e_icmp_ge (t := 80) rfl rfl (xnm_no rfl) (xnm_no rfl) h (fun h => ?_) (fun h => ?_)
  · refine e_iinc (y := 1) rfl rfl rfl (by decide) (xnm_no rfl) ?_
    refine e_goto (t := 9) rfl rfl rfl ?_
    exact xlfI h
  · refine e_iload_n rfl rfl (xnm_no rfl) ?_
    refine e_iload_n rfl rfl (xnm_no rfl) ?_
    obtain ⟨w1, hw2, h⟩ := xbd_some h
    refine e_cIS (hc := hw2) (rest := []) rfl rfl rfl rfl rfl rfl rfl rfl (xnm_no rfl) ?_
    refine e_if_eq (t := 74) rfl rfl (xnm_no rfl) (xnm_no rfl) h (fun h => ?_) (fun h => ?_)
    · refine e_iinc (y := 1) rfl rfl rfl (by decide) (xnm_no rfl) ?_
      refine e_goto (t := 28) rfl rfl rfl ?_
      exact xlfI h
    · refine e_aload_n rfl rfl rfl (xnm_no rfl) ?_
      refine e_getR (r := 164) rfl rfl rfl rfl rfl (xnm_no rfl) ?_
      refine e_iload_n rfl rfl (xnm_no rfl) ?_
      obtain ⟨g3, h⟩ := xgd_some h
      refine e_iald rfl g3 (xnm_no rfl) ?_
      refine e_iload_n rfl rfl (xnm_no rfl) ?_
      refine e_iand rfl (xnm_no rfl) ?_
      refine e_if_ne (t := 74) rfl rfl (xnm_no rfl) (xnm_no rfl) h (fun h => ?_) (fun h => ?_)
      · refine e_iinc (y := 1) rfl rfl rfl (by decide) (xnm_no rfl) ?_
        refine e_goto (t := 28) rfl rfl rfl ?_
        exact xlfI h
      · refine e_aload_n rfl rfl rfl (xnm_no rfl) ?_
        refine e_getR (r := 174) rfl rfl rfl rfl rfl (xnm_no rfl) ?_
        refine e_iload_n rfl rfl (xnm_no rfl) ?_
        refine e_dup2 rfl rfl rfl (xnm_no rfl) ?_
        obtain ⟨g4, h⟩ := xgd_some h
        refine e_iald rfl g4 (xnm_no rfl) ?_
        refine e_aload_n rfl rfl rfl (xnm_no rfl) ?_
        refine e_getR (r := 174) rfl rfl rfl rfl rfl (xnm_no rfl) ?_
        refine e_iload_n rfl rfl (xnm_no rfl) ?_
        refine e_iconst (x := 1) rfl (by decide) (xnm_no rfl) ?_
        refine e_iload_n rfl rfl (xnm_no rfl) ?_
        refine e_ishl rfl (xnm_no rfl) ?_
        refine e_ixor rfl (xnm_no rfl) ?_
        obtain ⟨g5, h⟩ := xgd_some h
        refine e_iald rfl g5 (xnm_no rfl) ?_
        refine e_iadd rfl (xnm_no rfl) ?_
        refine e_iast rfl g4 (xnm_no rfl) ?_
        replace h := xlt_b h
        refine e_iinc (y := 1) rfl rfl rfl (by decide) (xnm_no rfl) ?_
        refine e_goto (t := 28) rfl rfl rfl ?_
        exact xlfI h
set_option maxRecDepth 4000 in
theorem fX12_coverMany_144_i (m : xmm) {z : Int32 × xmm} (h : (bX12_coverMany_144_4 (0 : Int32) (0 : Int32) m) = some z) : fX12_coverMany_144 m = some z := by
  refine xstI ?_
  show xT 227 2 0 [(0, .ref 144)] [] m (some (.int z.1), z.2)
  refine e_iconst (x := 0) rfl (by decide) (xnm_no rfl) ?_
  refine e_istore_n rfl rfl (xnm_no rfl) ?_
  refine e_iconst (x := 0) rfl (by decide) (xnm_no rfl) ?_
  refine e_istore_n rfl rfl rfl ?_
  exact xlfI h
set_option maxRecDepth 4000 in
theorem bX12_coverMany_144_4_i (v1 : Int32) (v2 : Int32) (m : xmm) {z : Int32 × xmm} (h : (if (m.1 144 17) ≤ v2 then some (v1, m) else (fX12_coversOf_144 v2 m).bind fun (w1 : Int32 × xmm) => (fX12_bitsOf w1.1 w1.2).bind fun (w3 : Int32 × xmm) => bX12_coverMany_144_4 (v1 + w3.1) (v2 + (1 : Int32)) w3.2) = some z) : bX12_coverMany_144_4 v1 v2 m = some z := by
  refine xstI ?_
  show xT 227 2 4 [(0, .ref 144), (1, .int v1), (2, .int v2)] [] m (some (.int z.1), z.2)
  refine e_iload_n rfl rfl (xnm_no rfl) ?_
  refine e_aload_n rfl rfl rfl (xnm_no rfl) ?_
  refine e_getI rfl rfl rfl rfl (xnm_no rfl) ?_
  refine e_icmp_ge (t := 29) rfl rfl (xnm_no rfl) (xnm_no rfl) h (fun h => ?_) (fun h => ?_)
  · refine e_iload_n rfl rfl (xnm_no rfl) ?_
    cases h
    exact e_retI rfl rfl
  · refine e_iload_n rfl rfl (xnm_no rfl) ?_
    refine e_aload_n rfl rfl rfl (xnm_no rfl) ?_
    refine e_iload_n rfl rfl (xnm_no rfl) ?_
    obtain ⟨w1, hw2, h⟩ := xbd_some h
    refine e_cIV (hc := hw2) (rest := [.int _]) rfl rfl rfl rfl rfl rfl rfl rfl (xnm_no rfl) ?_
    obtain ⟨w3, hw4, h⟩ := xbd_some h
    refine e_cIS (hc := hw4) (rest := [.int _]) rfl rfl rfl rfl rfl rfl rfl rfl (xnm_no rfl) ?_
    refine e_iadd rfl (xnm_no rfl) ?_
    refine e_istore_n rfl rfl (xnm_no rfl) ?_
    refine e_iinc (y := 1) rfl rfl rfl (by decide) (xnm_no rfl) ?_
    refine e_goto (t := 4) rfl rfl rfl ?_
    exact xlfI h
set_option maxRecDepth 4000 in
theorem fX12_isRound_144_i (v1 : Int32) (m : xmm) {z : Int32 × xmm} (h : ((fX12_bitsOf v1 m).bind fun (w1 : Int32 × xmm) => if (4 : Int32) ≤ w1.1 then bX12_isRound_144_19 v1 (-1 : Int32) ((w1.2.1 144 17) - (1 : Int32)) w1.2 else some ((0 : Int32), w1.2)) = some z) : fX12_isRound_144 v1 m = some z := by
  refine xstI ?_
  show xT 242 2 0 [(0, .ref 144), (1, .int v1)] [] m (some (.int z.1), z.2)
  refine e_iload_n rfl rfl (xnm_no rfl) ?_
  obtain ⟨w1, hw2, h⟩ := xbd_some h
  refine e_cIS (hc := hw2) (rest := []) rfl rfl rfl rfl rfl rfl rfl rfl (xnm_no rfl) ?_
  refine e_iconst (x := 4) rfl (by decide) (xnm_no rfl) ?_
  refine e_icmp_ge (t := 10) rfl rfl (xnm_no rfl) (xnm_no rfl) h (fun h => ?_) (fun h => ?_)
  · refine e_iconst (x := -1) rfl (by decide) (xnm_no rfl) ?_
    refine e_istore_n rfl rfl (xnm_no rfl) ?_
    refine e_aload_n rfl rfl rfl (xnm_no rfl) ?_
    refine e_getI rfl rfl rfl rfl (xnm_no rfl) ?_
    refine e_iconst (x := 1) rfl (by decide) (xnm_no rfl) ?_
    refine e_isub rfl (xnm_no rfl) ?_
    refine e_istore_n rfl rfl rfl ?_
    exact xlfI h
  · refine e_iconst (x := 0) rfl (by decide) (xnm_no rfl) ?_
    cases h
    exact e_retI rfl (by decide)
set_option maxRecDepth 4000 in
theorem bX12_isRound_144_19_i (v1 : Int32) (v2 : Int32) (v3 : Int32) (m : xmm) {z : Int32 × xmm} (h : (if v3 < 0 then bX12_isRound_144_66 v1 ((1 : Int32) <<< (v2 &&& 31)) (0 : Int32) m else (fX12_has v1 v3 m).bind fun (w1 : Int32 × xmm) => if w1.1 = 0 then bX12_isRound_144_19 v1 v2 (v3 + (-1 : Int32)) w1.2 else xgd (xinb 9 v3) ((fX12_bitsOf ((w1.2.1 152 (v3).toNatClampNeg) &&& v1) w1.2).bind fun (w4 : Int32 × xmm) => if w4.1 = (2 : Int32) then bX12_isRound_144_19 v1 v3 (v3 + (-1 : Int32)) w4.2 else some ((0 : Int32), w4.2))) = some z) : bX12_isRound_144_19 v1 v2 v3 m = some z := by
  refine xstI ?_
  show xT 242 2 19 [(0, .ref 144), (1, .int v1), (2, .int v2), (3, .int v3)] [] m (some (.int z.1), z.2)
  refine e_iload_n rfl rfl (xnm_no rfl) ?_
  refine e_if_lt (t := 59) rfl rfl (xnm_no rfl) (xnm_no rfl) h (fun h => ?_) (fun h => ?_)
  · refine e_iconst (x := 1) rfl (by decide) (xnm_no rfl) ?_
    refine e_iload_n rfl rfl (xnm_no rfl) ?_
    refine e_ishl rfl (xnm_no rfl) ?_
    refine e_istore_n rfl rfl (xnm_no rfl) ?_
    refine e_iconst (x := 0) rfl (by decide) (xnm_no rfl) ?_
    refine e_istore rfl rfl rfl ?_
    exact xlfI h
  · refine e_iload_n rfl rfl (xnm_no rfl) ?_
    refine e_iload_n rfl rfl (xnm_no rfl) ?_
    obtain ⟨w1, hw2, h⟩ := xbd_some h
    refine e_cIS (hc := hw2) (rest := []) rfl rfl rfl rfl rfl rfl rfl rfl (xnm_no rfl) ?_
    refine e_if_ne (t := 34) rfl rfl (xnm_no rfl) (xnm_no rfl) h (fun h => ?_) (fun h => ?_)
    · refine e_aload_n rfl rfl rfl (xnm_no rfl) ?_
      refine e_getR (r := 152) rfl rfl rfl rfl rfl (xnm_no rfl) ?_
      refine e_iload_n rfl rfl (xnm_no rfl) ?_
      obtain ⟨g3, h⟩ := xgd_some h
      refine e_iald rfl g3 (xnm_no rfl) ?_
      refine e_iload_n rfl rfl (xnm_no rfl) ?_
      refine e_iand rfl (xnm_no rfl) ?_
      obtain ⟨w4, hw5, h⟩ := xbd_some h
      refine e_cIS (hc := hw5) (rest := []) rfl rfl rfl rfl rfl rfl rfl rfl (xnm_no rfl) ?_
      refine e_iconst (x := 2) rfl (by decide) (xnm_no rfl) ?_
      refine e_icmp_eq (t := 51) rfl rfl (xnm_no rfl) (xnm_no rfl) h (fun h => ?_) (fun h => ?_)
      · refine e_iload_n rfl rfl (xnm_no rfl) ?_
        refine e_istore_n rfl rfl (xnm_no rfl) ?_
        refine e_iinc (y := -1) rfl rfl rfl (by decide) (xnm_no rfl) ?_
        refine e_goto (t := 19) rfl rfl rfl ?_
        exact xlfI h
      · refine e_iconst (x := 0) rfl (by decide) (xnm_no rfl) ?_
        cases h
        exact e_retI rfl (by decide)
    · refine e_goto (t := 53) rfl rfl (xnm_no rfl) ?_
      refine e_iinc (y := -1) rfl rfl rfl (by decide) (xnm_no rfl) ?_
      refine e_goto (t := 19) rfl rfl rfl ?_
      exact xlfI h
set_option maxRecDepth 4000 in
theorem bX12_isRound_144_66_i (v1 : Int32) (v3 : Int32) (v4 : Int32) (m : xmm) {z : Int32 × xmm} (h : (if (m.1 144 17) ≤ v4 then if v3 = v1 then some ((1 : Int32), m) else some ((0 : Int32), m) else bX12_isRound_144_78 v1 v3 v4 (0 : Int32) m) = some z) : bX12_isRound_144_66 v1 v3 v4 m = some z := by
  refine xstI ?_
  show xT 242 2 66 [(0, .ref 144), (1, .int v1), (3, .int v3), (4, .int v4)] [] m (some (.int z.1), z.2)
  refine e_iload rfl rfl (xnm_no rfl) ?_
  refine e_aload_n rfl rfl rfl (xnm_no rfl) ?_
  refine e_getI rfl rfl rfl rfl (xnm_no rfl) ?_
  refine e_icmp_ge (t := 120) rfl rfl (xnm_no rfl) (xnm_no rfl) h (fun h => ?_) (fun h => ?_)
  · refine e_iload_n rfl rfl (xnm_no rfl) ?_
    refine e_iload_n rfl rfl (xnm_no rfl) ?_
    refine e_icmp_ne (t := 129) rfl rfl (xnm_no rfl) (xnm_no rfl) h (fun h => ?_) (fun h => ?_)
    · refine e_iconst (x := 0) rfl (by decide) (xnm_no rfl) ?_
      cases h
      exact e_retI rfl (by decide)
    · refine e_iconst (x := 1) rfl (by decide) (xnm_no rfl) ?_
      refine e_goto (t := 130) rfl rfl (xnm_no rfl) ?_
      cases h
      exact e_retI rfl (by decide)
  · refine e_iconst (x := 0) rfl (by decide) (xnm_no rfl) ?_
    refine e_istore rfl rfl rfl ?_
    exact xlfI h
set_option maxRecDepth 4000 in
theorem bX12_isRound_144_78_i (v1 : Int32) (v3 : Int32) (v4 : Int32) (v5 : Int32) (m : xmm) {z : Int32 × xmm} (h : (if (m.1 144 17) ≤ v5 then bX12_isRound_144_66 v1 v3 (v4 + (1 : Int32)) m else (fX12_has v3 v5 m).bind fun (w1 : Int32 × xmm) => if w1.1 = 0 then bX12_isRound_144_78 v1 v3 v4 (v5 + (1 : Int32)) w1.2 else xgd (xinb 9 v5) (bX12_isRound_144_78 v1 (v3 ||| ((w1.2.1 152 (v5).toNatClampNeg) &&& v1)) v4 (v5 + (1 : Int32)) w1.2)) = some z) : bX12_isRound_144_78 v1 v3 v4 v5 m = some z := by
  refine xstI ?_
  show xT 242 2 78 [(0, .ref 144), (1, .int v1), (3, .int v3), (4, .int v4), (5, .int v5)] [] m (some (.int z.1), z.2)
  refine e_iload rfl rfl (xnm_no rfl) ?_
  refine e_aload_n rfl rfl rfl (xnm_no rfl) ?_
  refine e_getI rfl rfl rfl rfl (xnm_no rfl) ?_
  refine e_icmp_ge (t := 114) rfl rfl (xnm_no rfl) (xnm_no rfl) h (fun h => ?_) (fun h => ?_)
  · refine e_iinc (y := 1) rfl rfl rfl (by decide) (xnm_no rfl) ?_
    refine e_goto (t := 66) rfl rfl rfl ?_
    exact xlfI h
  · refine e_iload_n rfl rfl (xnm_no rfl) ?_
    refine e_iload rfl rfl (xnm_no rfl) ?_
    obtain ⟨w1, hw2, h⟩ := xbd_some h
    refine e_cIS (hc := hw2) (rest := []) rfl rfl rfl rfl rfl rfl rfl rfl (xnm_no rfl) ?_
    refine e_if_eq (t := 108) rfl rfl (xnm_no rfl) (xnm_no rfl) h (fun h => ?_) (fun h => ?_)
    · refine e_iinc (y := 1) rfl rfl rfl (by decide) (xnm_no rfl) ?_
      refine e_goto (t := 78) rfl rfl rfl ?_
      exact xlfI h
    · refine e_iload_n rfl rfl (xnm_no rfl) ?_
      refine e_aload_n rfl rfl rfl (xnm_no rfl) ?_
      refine e_getR (r := 152) rfl rfl rfl rfl rfl (xnm_no rfl) ?_
      refine e_iload rfl rfl (xnm_no rfl) ?_
      obtain ⟨g3, h⟩ := xgd_some h
      refine e_iald rfl g3 (xnm_no rfl) ?_
      refine e_iload_n rfl rfl (xnm_no rfl) ?_
      refine e_iand rfl (xnm_no rfl) ?_
      refine e_ior rfl (xnm_no rfl) ?_
      refine e_istore_n rfl rfl (xnm_no rfl) ?_
      refine e_iinc (y := 1) rfl rfl rfl (by decide) (xnm_no rfl) ?_
      refine e_goto (t := 78) rfl rfl rfl ?_
      exact xlfI h
set_option maxRecDepth 4000 in
theorem fX12_isAlike_144_i (v1 : Int32) (m : xmm) {z : Int32 × xmm} (h : (bX12_isAlike_144_2 v1 (0 : Int32) m) = some z) : fX12_isAlike_144 v1 m = some z := by
  refine xstI ?_
  show xT 241 1 0 [(0, .ref 144), (1, .int v1)] [] m (some (.int z.1), z.2)
  refine e_iconst (x := 0) rfl (by decide) (xnm_no rfl) ?_
  refine e_istore_n rfl rfl rfl ?_
  exact xlfI h
set_option maxRecDepth 4000 in
theorem bX12_isAlike_144_2_i (v1 : Int32) (v2 : Int32) (m : xmm) {z : Int32 × xmm} (h : (if (m.1 144 17) ≤ v2 then if v1 = 0 then some ((0 : Int32), m) else some ((1 : Int32), m) else (fX12_has v1 v2 m).bind fun (w1 : Int32 × xmm) => if w1.1 = 0 then xgd (xinb 9 v2) (if ((w1.2.1 152 (v2).toNatClampNeg) &&& v1) = 0 then bX12_isAlike_144_2 v1 (v2 + (1 : Int32)) w1.2 else if ((w1.2.1 152 (v2).toNatClampNeg) &&& v1) = v1 then bX12_isAlike_144_2 v1 (v2 + (1 : Int32)) w1.2 else some ((0 : Int32), w1.2)) else bX12_isAlike_144_2 v1 (v2 + (1 : Int32)) w1.2) = some z) : bX12_isAlike_144_2 v1 v2 m = some z := by
  refine xstI ?_
  show xT 241 1 2 [(0, .ref 144), (1, .int v1), (2, .int v2)] [] m (some (.int z.1), z.2)
  refine e_iload_n rfl rfl (xnm_no rfl) ?_
  refine e_aload_n rfl rfl rfl (xnm_no rfl) ?_
  refine e_getI rfl rfl rfl rfl (xnm_no rfl) ?_
  refine e_icmp_ge (t := 49) rfl rfl (xnm_no rfl) (xnm_no rfl) h (fun h => ?_) (fun h => ?_)
  · refine e_iload_n rfl rfl (xnm_no rfl) ?_
    refine e_if_eq (t := 57) rfl rfl (xnm_no rfl) (xnm_no rfl) h (fun h => ?_) (fun h => ?_)
    · refine e_iconst (x := 0) rfl (by decide) (xnm_no rfl) ?_
      cases h
      exact e_retI rfl (by decide)
    · refine e_iconst (x := 1) rfl (by decide) (xnm_no rfl) ?_
      refine e_goto (t := 58) rfl rfl (xnm_no rfl) ?_
      cases h
      exact e_retI rfl (by decide)
  · refine e_iload_n rfl rfl (xnm_no rfl) ?_
    refine e_iload_n rfl rfl (xnm_no rfl) ?_
    obtain ⟨w1, hw2, h⟩ := xbd_some h
    refine e_cIS (hc := hw2) (rest := []) rfl rfl rfl rfl rfl rfl rfl rfl (xnm_no rfl) ?_
    refine e_if_ne (t := 43) rfl rfl (xnm_no rfl) (xnm_no rfl) h (fun h => ?_) (fun h => ?_)
    · refine e_iinc (y := 1) rfl rfl rfl (by decide) (xnm_no rfl) ?_
      refine e_goto (t := 2) rfl rfl rfl ?_
      exact xlfI h
    · refine e_aload_n rfl rfl rfl (xnm_no rfl) ?_
      refine e_getR (r := 152) rfl rfl rfl rfl rfl (xnm_no rfl) ?_
      refine e_iload_n rfl rfl (xnm_no rfl) ?_
      obtain ⟨g3, h⟩ := xgd_some h
      refine e_iald rfl g3 (xnm_no rfl) ?_
      refine e_iload_n rfl rfl (xnm_no rfl) ?_
      refine e_iand rfl (xnm_no rfl) ?_
      refine e_if_eq (t := 43) rfl rfl (xnm_no rfl) (xnm_no rfl) h (fun h => ?_) (fun h => ?_)
      · refine e_iinc (y := 1) rfl rfl rfl (by decide) (xnm_no rfl) ?_
        refine e_goto (t := 2) rfl rfl rfl ?_
        exact xlfI h
      · refine e_aload_n rfl rfl rfl (xnm_no rfl) ?_
        refine e_getR (r := 152) rfl rfl rfl rfl rfl (xnm_no rfl) ?_
        refine e_iload_n rfl rfl (xnm_no rfl) ?_
        refine e_iald rfl g3 (xnm_no rfl) ?_
        refine e_iload_n rfl rfl (xnm_no rfl) ?_
        refine e_iand rfl (xnm_no rfl) ?_
        refine e_iload_n rfl rfl (xnm_no rfl) ?_
        refine e_icmp_eq (t := 43) rfl rfl (xnm_no rfl) (xnm_no rfl) h (fun h => ?_) (fun h => ?_)
        · refine e_iinc (y := 1) rfl rfl rfl (by decide) (xnm_no rfl) ?_
          refine e_goto (t := 2) rfl rfl rfl ?_
          exact xlfI h
        · refine e_iconst (x := 0) rfl (by decide) (xnm_no rfl) ?_
          cases h
          exact e_retI rfl (by decide)
set_option maxRecDepth 4000 in
theorem fX12_isApart_144_i (v1 : Int32) (m : xmm) {z : Int32 × xmm} (h : (bX12_isApart_144_2 v1 (0 : Int32) m) = some z) : fX12_isApart_144 v1 m = some z := by
  refine xstI ?_
  show xT 240 1 0 [(0, .ref 144), (1, .int v1)] [] m (some (.int z.1), z.2)
  refine e_iconst (x := 0) rfl (by decide) (xnm_no rfl) ?_
  refine e_istore_n rfl rfl rfl ?_
  exact xlfI h
set_option maxRecDepth 4000 in
theorem bX12_isApart_144_2_i (v1 : Int32) (v2 : Int32) (m : xmm) {z : Int32 × xmm} (h : (if (m.1 144 17) ≤ v2 then some ((1 : Int32), m) else (fX12_has v1 v2 m).bind fun (w1 : Int32 × xmm) => if w1.1 = 0 then bX12_isApart_144_2 v1 (v2 + (1 : Int32)) w1.2 else xgd (xinb 9 v2) (if (v1 &&& (w1.2.1 152 (v2).toNatClampNeg)) = 0 then bX12_isApart_144_2 v1 (v2 + (1 : Int32)) w1.2 else some ((0 : Int32), w1.2))) = some z) : bX12_isApart_144_2 v1 v2 m = some z := by
  refine xstI ?_
  show xT 240 1 2 [(0, .ref 144), (1, .int v1), (2, .int v2)] [] m (some (.int z.1), z.2)
  refine e_iload_n rfl rfl (xnm_no rfl) ?_
  refine e_aload_n rfl rfl rfl (xnm_no rfl) ?_
  refine e_getI rfl rfl rfl rfl (xnm_no rfl) ?_
  refine e_icmp_ge (t := 37) rfl rfl (xnm_no rfl) (xnm_no rfl) h (fun h => ?_) (fun h => ?_)
  · refine e_iconst (x := 1) rfl (by decide) (xnm_no rfl) ?_
    cases h
    exact e_retI rfl (by decide)
  · refine e_iload_n rfl rfl (xnm_no rfl) ?_
    refine e_iload_n rfl rfl (xnm_no rfl) ?_
    obtain ⟨w1, hw2, h⟩ := xbd_some h
    refine e_cIS (hc := hw2) (rest := []) rfl rfl rfl rfl rfl rfl rfl rfl (xnm_no rfl) ?_
    refine e_if_eq (t := 31) rfl rfl (xnm_no rfl) (xnm_no rfl) h (fun h => ?_) (fun h => ?_)
    · refine e_iinc (y := 1) rfl rfl rfl (by decide) (xnm_no rfl) ?_
      refine e_goto (t := 2) rfl rfl rfl ?_
      exact xlfI h
    · refine e_iload_n rfl rfl (xnm_no rfl) ?_
      refine e_aload_n rfl rfl rfl (xnm_no rfl) ?_
      refine e_getR (r := 152) rfl rfl rfl rfl rfl (xnm_no rfl) ?_
      refine e_iload_n rfl rfl (xnm_no rfl) ?_
      obtain ⟨g3, h⟩ := xgd_some h
      refine e_iald rfl g3 (xnm_no rfl) ?_
      refine e_iand rfl (xnm_no rfl) ?_
      refine e_if_eq (t := 31) rfl rfl (xnm_no rfl) (xnm_no rfl) h (fun h => ?_) (fun h => ?_)
      · refine e_iinc (y := 1) rfl rfl rfl (by decide) (xnm_no rfl) ?_
        refine e_goto (t := 2) rfl rfl rfl ?_
        exact xlfI h
      · refine e_iconst (x := 0) rfl (by decide) (xnm_no rfl) ?_
        cases h
        exact e_retI rfl (by decide)
set_option maxRecDepth 4000 in
theorem fX12_isChain_144_i (v1 : Int32) (m : xmm) {z : Int32 × xmm} (h : (bX12_isChain_144_2 v1 (0 : Int32) m) = some z) : fX12_isChain_144 v1 m = some z := by
  refine xstI ?_
  show xT 239 1 0 [(0, .ref 144), (1, .int v1)] [] m (some (.int z.1), z.2)
  refine e_iconst (x := 0) rfl (by decide) (xnm_no rfl) ?_
  refine e_istore_n rfl rfl rfl ?_
  exact xlfI h
set_option maxRecDepth 4000 in
theorem bX12_isChain_144_2_i (v1 : Int32) (v2 : Int32) (m : xmm) {z : Int32 × xmm} (h : (if (m.1 144 17) ≤ v2 then some ((1 : Int32), m) else (fX12_has v1 v2 m).bind fun (w1 : Int32 × xmm) => if w1.1 = 0 then bX12_isChain_144_2 v1 (v2 + (1 : Int32)) w1.2 else xgd (xinb 9 v2) (if (v1 &&& ((w1.2.1 152 (v2).toNatClampNeg) ^^^ (-1 : Int32))) = ((1 : Int32) <<< (v2 &&& 31)) then bX12_isChain_144_2 v1 (v2 + (1 : Int32)) w1.2 else some ((0 : Int32), w1.2))) = some z) : bX12_isChain_144_2 v1 v2 m = some z := by
  refine xstI ?_
  show xT 239 1 2 [(0, .ref 144), (1, .int v1), (2, .int v2)] [] m (some (.int z.1), z.2)
  refine e_iload_n rfl rfl (xnm_no rfl) ?_
  refine e_aload_n rfl rfl rfl (xnm_no rfl) ?_
  refine e_getI rfl rfl rfl rfl (xnm_no rfl) ?_
  refine e_icmp_ge (t := 42) rfl rfl (xnm_no rfl) (xnm_no rfl) h (fun h => ?_) (fun h => ?_)
  · refine e_iconst (x := 1) rfl (by decide) (xnm_no rfl) ?_
    cases h
    exact e_retI rfl (by decide)
  · refine e_iload_n rfl rfl (xnm_no rfl) ?_
    refine e_iload_n rfl rfl (xnm_no rfl) ?_
    obtain ⟨w1, hw2, h⟩ := xbd_some h
    refine e_cIS (hc := hw2) (rest := []) rfl rfl rfl rfl rfl rfl rfl rfl (xnm_no rfl) ?_
    refine e_if_eq (t := 36) rfl rfl (xnm_no rfl) (xnm_no rfl) h (fun h => ?_) (fun h => ?_)
    · refine e_iinc (y := 1) rfl rfl rfl (by decide) (xnm_no rfl) ?_
      refine e_goto (t := 2) rfl rfl rfl ?_
      exact xlfI h
    · refine e_iload_n rfl rfl (xnm_no rfl) ?_
      refine e_aload_n rfl rfl rfl (xnm_no rfl) ?_
      refine e_getR (r := 152) rfl rfl rfl rfl rfl (xnm_no rfl) ?_
      refine e_iload_n rfl rfl (xnm_no rfl) ?_
      obtain ⟨g3, h⟩ := xgd_some h
      refine e_iald rfl g3 (xnm_no rfl) ?_
      refine e_iconst (x := -1) rfl (by decide) (xnm_no rfl) ?_
      refine e_ixor rfl (xnm_no rfl) ?_
      refine e_iand rfl (xnm_no rfl) ?_
      refine e_iconst (x := 1) rfl (by decide) (xnm_no rfl) ?_
      refine e_iload_n rfl rfl (xnm_no rfl) ?_
      refine e_ishl rfl (xnm_no rfl) ?_
      refine e_icmp_eq (t := 36) rfl rfl (xnm_no rfl) (xnm_no rfl) h (fun h => ?_) (fun h => ?_)
      · refine e_iinc (y := 1) rfl rfl rfl (by decide) (xnm_no rfl) ?_
        refine e_goto (t := 2) rfl rfl rfl ?_
        exact xlfI h
      · refine e_iconst (x := 0) rfl (by decide) (xnm_no rfl) ?_
        cases h
        exact e_retI rfl (by decide)
set_option maxRecDepth 4000 in
theorem fX12_isSuch_144_i (v1 : Int32) (v2 : Int32) (m : xmm) {z : Int32 × xmm} (h : (if v2 = 0 then (fX12_isChain_144 v1 m).bind fun (w10 : Int32 × xmm) => xgd (xz01 w10.1) (some (w10.1, w10.2)) else if v2 = (1 : Int32) then (fX12_isApart_144 v1 m).bind fun (w7 : Int32 × xmm) => xgd (xz01 w7.1) (some (w7.1, w7.2)) else if v2 = (2 : Int32) then (fX12_isAlike_144 v1 m).bind fun (w4 : Int32 × xmm) => xgd (xz01 w4.1) (some (w4.1, w4.2)) else (fX12_isRound_144 v1 m).bind fun (w1 : Int32 × xmm) => xgd (xz01 w1.1) (some (w1.1, w1.2))) = some z) : fX12_isSuch_144 v1 v2 m = some z := by
  refine xstI ?_
  show xT 243 3 0 [(0, .ref 144), (1, .int v1), (2, .int v2)] [] m (some (.int z.1), z.2)
  refine e_iload_n rfl rfl (xnm_no rfl) ?_
  refine e_if_ne (t := 12) rfl rfl (xnm_no rfl) (xnm_no rfl) h (fun h => ?_) (fun h => ?_)
  · refine e_iload_n rfl rfl (xnm_no rfl) ?_
    refine e_iconst (x := 1) rfl (by decide) (xnm_no rfl) ?_
    refine e_icmp_ne (t := 25) rfl rfl (xnm_no rfl) (xnm_no rfl) h (fun h => ?_) (fun h => ?_)
    · refine e_iload_n rfl rfl (xnm_no rfl) ?_
      refine e_iconst (x := 2) rfl (by decide) (xnm_no rfl) ?_
      refine e_icmp_ne (t := 38) rfl rfl (xnm_no rfl) (xnm_no rfl) h (fun h => ?_) (fun h => ?_)
      · refine e_aload_n rfl rfl rfl (xnm_no rfl) ?_
        refine e_iload_n rfl rfl (xnm_no rfl) ?_
        obtain ⟨w1, hw2, h⟩ := xbd_some h
        refine e_cIV (hc := hw2) (rest := []) rfl rfl rfl rfl rfl rfl rfl rfl (xnm_no rfl) ?_
        obtain ⟨g3, h⟩ := xgd_some h
        cases h
        exact e_retI rfl g3
      · refine e_aload_n rfl rfl rfl (xnm_no rfl) ?_
        refine e_iload_n rfl rfl (xnm_no rfl) ?_
        obtain ⟨w4, hw5, h⟩ := xbd_some h
        refine e_cIV (hc := hw5) (rest := []) rfl rfl rfl rfl rfl rfl rfl rfl (xnm_no rfl) ?_
        refine e_goto (t := 43) rfl rfl (xnm_no rfl) ?_
        obtain ⟨g6, h⟩ := xgd_some h
        cases h
        exact e_retI rfl g6
    · refine e_aload_n rfl rfl rfl (xnm_no rfl) ?_
      refine e_iload_n rfl rfl (xnm_no rfl) ?_
      obtain ⟨w7, hw8, h⟩ := xbd_some h
      refine e_cIV (hc := hw8) (rest := []) rfl rfl rfl rfl rfl rfl rfl rfl (xnm_no rfl) ?_
      refine e_goto (t := 43) rfl rfl (xnm_no rfl) ?_
      obtain ⟨g9, h⟩ := xgd_some h
      cases h
      exact e_retI rfl g9
  · refine e_aload_n rfl rfl rfl (xnm_no rfl) ?_
    refine e_iload_n rfl rfl (xnm_no rfl) ?_
    obtain ⟨w10, hw11, h⟩ := xbd_some h
    refine e_cIV (hc := hw11) (rest := []) rfl rfl rfl rfl rfl rfl rfl rfl (xnm_no rfl) ?_
    refine e_goto (t := 43) rfl rfl (xnm_no rfl) ?_
    obtain ⟨g12, h⟩ := xgd_some h
    cases h
    exact e_retI rfl g12
set_option maxRecDepth 4000 in
theorem fX12_greatestSet_144_i (v1 : Int32) (m : xmm) {z : Int32 × xmm} (h : (bX12_greatestSet_144_4 v1 (0 : Int32) (1 : Int32) m) = some z) : fX12_greatestSet_144 v1 m = some z := by
  refine xstI ?_
  show xT 246 4 0 [(0, .ref 144), (1, .int v1)] [] m (some (.int z.1), z.2)
  refine e_iconst (x := 0) rfl (by decide) (xnm_no rfl) ?_
  refine e_istore_n rfl rfl (xnm_no rfl) ?_
  refine e_iconst (x := 1) rfl (by decide) (xnm_no rfl) ?_
  refine e_istore_n rfl rfl rfl ?_
  exact xlfI h
set_option maxRecDepth 4000 in
theorem bX12_greatestSet_144_4_i (v1 : Int32) (v2 : Int32) (v3 : Int32) (m : xmm) {z : Int32 × xmm} (h : (if ((1 : Int32) <<< ((m.1 144 17) &&& 31)) ≤ v3 then some (v2, m) else (fX12_isSuch_144 v3 v1 m).bind fun (w1 : Int32 × xmm) => if w1.1 = 0 then bX12_greatestSet_144_4 v1 v2 (v3 + (1 : Int32)) w1.2 else (fX12_bitsOf v3 w1.2).bind fun (w3 : Int32 × xmm) => (fX12_bitsOf v2 w3.2).bind fun (w5 : Int32 × xmm) => if w3.1 ≤ w5.1 then bX12_greatestSet_144_4 v1 v2 (v3 + (1 : Int32)) w5.2 else bX12_greatestSet_144_4 v1 v3 (v3 + (1 : Int32)) w5.2) = some z) : bX12_greatestSet_144_4 v1 v2 v3 m = some z := by
  refine xstI ?_
  show xT 246 4 4 [(0, .ref 144), (1, .int v1), (2, .int v2), (3, .int v3)] [] m (some (.int z.1), z.2)
  refine e_iload_n rfl rfl (xnm_no rfl) ?_
  refine e_iconst (x := 1) rfl (by decide) (xnm_no rfl) ?_
  refine e_aload_n rfl rfl rfl (xnm_no rfl) ?_
  refine e_getI rfl rfl rfl rfl (xnm_no rfl) ?_
  refine e_ishl rfl (xnm_no rfl) ?_
  refine e_icmp_ge (t := 42) rfl rfl (xnm_no rfl) (xnm_no rfl) h (fun h => ?_) (fun h => ?_)
  · refine e_iload_n rfl rfl (xnm_no rfl) ?_
    cases h
    exact e_retI rfl rfl
  · refine e_aload_n rfl rfl rfl (xnm_no rfl) ?_
    refine e_iload_n rfl rfl (xnm_no rfl) ?_
    refine e_iload_n rfl rfl (xnm_no rfl) ?_
    obtain ⟨w1, hw2, h⟩ := xbd_some h
    refine e_cIV (hc := hw2) (rest := []) rfl rfl rfl rfl rfl rfl rfl rfl (xnm_no rfl) ?_
    refine e_if_eq (t := 36) rfl rfl (xnm_no rfl) (xnm_no rfl) h (fun h => ?_) (fun h => ?_)
    · refine e_iinc (y := 1) rfl rfl rfl (by decide) (xnm_no rfl) ?_
      refine e_goto (t := 4) rfl rfl rfl ?_
      exact xlfI h
    · refine e_iload_n rfl rfl (xnm_no rfl) ?_
      obtain ⟨w3, hw4, h⟩ := xbd_some h
      refine e_cIS (hc := hw4) (rest := []) rfl rfl rfl rfl rfl rfl rfl rfl (xnm_no rfl) ?_
      refine e_iload_n rfl rfl (xnm_no rfl) ?_
      obtain ⟨w5, hw6, h⟩ := xbd_some h
      refine e_cIS (hc := hw6) (rest := [.int _]) rfl rfl rfl rfl rfl rfl rfl rfl (xnm_no rfl) ?_
      refine e_icmp_le (t := 36) rfl rfl (xnm_no rfl) (xnm_no rfl) h (fun h => ?_) (fun h => ?_)
      · refine e_iinc (y := 1) rfl rfl rfl (by decide) (xnm_no rfl) ?_
        refine e_goto (t := 4) rfl rfl rfl ?_
        exact xlfI h
      · refine e_iload_n rfl rfl (xnm_no rfl) ?_
        refine e_istore_n rfl rfl (xnm_no rfl) ?_
        refine e_iinc (y := 1) rfl rfl rfl (by decide) (xnm_no rfl) ?_
        refine e_goto (t := 4) rfl rfl rfl ?_
        exact xlfI h
set_option maxRecDepth 4000 in
theorem fX12_fewestChains_144_i (m : xmm) {z : Int32 × xmm} (h : (xlt (xwi m 179 0 (0 : Int32)) fun (m1 : xmm) => bX12_fewestChains_144_9 (1 : Int32) m1) = some z) : fX12_fewestChains_144 m = some z := by
  refine xstI ?_
  show xT 247 2 0 [(0, .ref 144)] [] m (some (.int z.1), z.2)
  refine e_aload_n rfl rfl rfl (xnm_no rfl) ?_
  refine e_getR (r := 179) rfl rfl rfl rfl rfl (xnm_no rfl) ?_
  refine e_iconst (x := 0) rfl (by decide) (xnm_no rfl) ?_
  refine e_iconst (x := 0) rfl (by decide) (xnm_no rfl) ?_
  refine e_iast rfl (by decide) (xnm_no rfl) ?_
  replace h := xlt_b h
  refine e_iconst (x := 1) rfl (by decide) (xnm_no rfl) ?_
  refine e_istore_n rfl rfl rfl ?_
  exact xlfI h
set_option maxRecDepth 4000 in
theorem bX12_fewestChains_144_9_i (v1 : Int32) (m : xmm) {z : Int32 × xmm} (h : (if ((1 : Int32) <<< ((m.1 144 17) &&& 31)) ≤ v1 then xgd (xinb 256 (((1 : Int32) <<< ((m.1 144 17) &&& 31)) - (1 : Int32))) (some ((m.1 179 ((((1 : Int32) <<< ((m.1 144 17) &&& 31)) - (1 : Int32))).toNatClampNeg), m)) else xgd (xinb 256 v1) (xlt (xwi m 179 (v1).toNatClampNeg (8 : Int32)) fun (m3 : xmm) => bX12_fewestChains_144_29 v1 v1 m3)) = some z) : bX12_fewestChains_144_9 v1 m = some z := by
  refine xstI ?_
  show xT 247 2 9 [(0, .ref 144), (1, .int v1)] [] m (some (.int z.1), z.2)
  refine e_iload_n rfl rfl (xnm_no rfl) ?_
  refine e_iconst (x := 1) rfl (by decide) (xnm_no rfl) ?_
  refine e_aload_n rfl rfl rfl (xnm_no rfl) ?_
  refine e_getI rfl rfl rfl rfl (xnm_no rfl) ?_
  refine e_ishl rfl (xnm_no rfl) ?_
  refine e_icmp_ge (t := 91) rfl rfl (xnm_no rfl) (xnm_no rfl) h (fun h => ?_) (fun h => ?_)
  · refine e_aload_n rfl rfl rfl (xnm_no rfl) ?_
    refine e_getR (r := 179) rfl rfl rfl rfl rfl (xnm_no rfl) ?_
    refine e_iconst (x := 1) rfl (by decide) (xnm_no rfl) ?_
    refine e_aload_n rfl rfl rfl (xnm_no rfl) ?_
    refine e_getI rfl rfl rfl rfl (xnm_no rfl) ?_
    refine e_ishl rfl (xnm_no rfl) ?_
    refine e_iconst (x := 1) rfl (by decide) (xnm_no rfl) ?_
    refine e_isub rfl (xnm_no rfl) ?_
    obtain ⟨g1, h⟩ := xgd_some h
    refine e_iald rfl g1 (xnm_no rfl) ?_
    cases h
    exact e_retI rfl rfl
  · refine e_aload_n rfl rfl rfl (xnm_no rfl) ?_
    refine e_getR (r := 179) rfl rfl rfl rfl rfl (xnm_no rfl) ?_
    refine e_iload_n rfl rfl (xnm_no rfl) ?_
    refine e_bipush (x := 8) rfl (by decide) (xnm_no rfl) ?_
    obtain ⟨g2, h⟩ := xgd_some h
    refine e_iast rfl g2 (xnm_no rfl) ?_
    replace h := xlt_b h
    refine e_iload_n rfl rfl (xnm_no rfl) ?_
    refine e_istore_n rfl rfl rfl ?_
    exact xlfI h
set_option maxRecDepth 4000 in
theorem bX12_fewestChains_144_29_i (v1 : Int32) (v2 : Int32) (m : xmm) {z : Int32 × xmm} (h : (if v2 ≤ 0 then bX12_fewestChains_144_9 (v1 + (1 : Int32)) m else (fX12_isChain_144 v2 m).bind fun (w1 : Int32 × xmm) => if w1.1 = 0 then bX12_fewestChains_144_76 v1 v2 w1.2 else xgd (xinb 256 (v1 ^^^ v2)) (xgd (xinb 256 v1) (if (w1.2.1 179 (v1).toNatClampNeg) ≤ ((w1.2.1 179 ((v1 ^^^ v2)).toNatClampNeg) + (1 : Int32)) then bX12_fewestChains_144_76 v1 v2 w1.2 else xlt (xwi w1.2 179 (v1).toNatClampNeg ((w1.2.1 179 ((v1 ^^^ v2)).toNatClampNeg) + (1 : Int32))) fun (m5 : xmm) => bX12_fewestChains_144_76 v1 v2 m5))) = some z) : bX12_fewestChains_144_29 v1 v2 m = some z := by
  refine xstI ?_
  show xT 247 2 29 [(0, .ref 144), (1, .int v1), (2, .int v2)] [] m (some (.int z.1), z.2)
  refine e_iload_n rfl rfl (xnm_no rfl) ?_
  refine e_if_le (t := 85) rfl rfl (xnm_no rfl) (xnm_no rfl) h (fun h => ?_) (fun h => ?_)
  · refine e_iinc (y := 1) rfl rfl rfl (by decide) (xnm_no rfl) ?_
    refine e_goto (t := 9) rfl rfl rfl ?_
    exact xlfI h
  · refine e_aload_n rfl rfl rfl (xnm_no rfl) ?_
    refine e_iload_n rfl rfl (xnm_no rfl) ?_
    obtain ⟨w1, hw2, h⟩ := xbd_some h
    refine e_cIV (hc := hw2) (rest := []) rfl rfl rfl rfl rfl rfl rfl rfl (xnm_no rfl) ?_
    refine e_if_eq (t := 76) rfl rfl rfl (xnm_no rfl) h (fun h => ?_) (fun h => ?_)
    · exact xlfI h
    · refine e_aload_n rfl rfl rfl (xnm_no rfl) ?_
      refine e_getR (r := 179) rfl rfl rfl rfl rfl (xnm_no rfl) ?_
      refine e_iload_n rfl rfl (xnm_no rfl) ?_
      refine e_iload_n rfl rfl (xnm_no rfl) ?_
      refine e_ixor rfl (xnm_no rfl) ?_
      obtain ⟨g3, h⟩ := xgd_some h
      refine e_iald rfl g3 (xnm_no rfl) ?_
      refine e_iconst (x := 1) rfl (by decide) (xnm_no rfl) ?_
      refine e_iadd rfl (xnm_no rfl) ?_
      refine e_aload_n rfl rfl rfl (xnm_no rfl) ?_
      refine e_getR (r := 179) rfl rfl rfl rfl rfl (xnm_no rfl) ?_
      refine e_iload_n rfl rfl (xnm_no rfl) ?_
      obtain ⟨g4, h⟩ := xgd_some h
      refine e_iald rfl g4 (xnm_no rfl) ?_
      refine e_icmp_ge (t := 76) rfl rfl rfl (xnm_no rfl) h (fun h => ?_) (fun h => ?_)
      · exact xlfI h
      · refine e_aload_n rfl rfl rfl (xnm_no rfl) ?_
        refine e_getR (r := 179) rfl rfl rfl rfl rfl (xnm_no rfl) ?_
        refine e_iload_n rfl rfl (xnm_no rfl) ?_
        refine e_aload_n rfl rfl rfl (xnm_no rfl) ?_
        refine e_getR (r := 179) rfl rfl rfl rfl rfl (xnm_no rfl) ?_
        refine e_iload_n rfl rfl (xnm_no rfl) ?_
        refine e_iload_n rfl rfl (xnm_no rfl) ?_
        refine e_ixor rfl (xnm_no rfl) ?_
        refine e_iald rfl g3 (xnm_no rfl) ?_
        refine e_iconst (x := 1) rfl (by decide) (xnm_no rfl) ?_
        refine e_iadd rfl (xnm_no rfl) ?_
        refine e_iast rfl g4 rfl ?_
        replace h := xlt_b h
        exact xlfI h
set_option maxRecDepth 4000 in
theorem bX12_fewestChains_144_76_i (v1 : Int32) (v2 : Int32) (m : xmm) {z : Int32 × xmm} (h : (bX12_fewestChains_144_29 v1 ((v2 - (1 : Int32)) &&& v1) m) = some z) : bX12_fewestChains_144_76 v1 v2 m = some z := by
  refine xstI ?_
  show xT 247 2 76 [(0, .ref 144), (1, .int v1), (2, .int v2)] [] m (some (.int z.1), z.2)
  refine e_iload_n rfl rfl (xnm_no rfl) ?_
  refine e_iconst (x := 1) rfl (by decide) (xnm_no rfl) ?_
  refine e_isub rfl (xnm_no rfl) ?_
  refine e_iload_n rfl rfl (xnm_no rfl) ?_
  refine e_iand rfl (xnm_no rfl) ?_
  refine e_istore_n rfl rfl (xnm_no rfl) ?_
  refine e_goto (t := 29) rfl rfl rfl ?_
  exact xlfI h
