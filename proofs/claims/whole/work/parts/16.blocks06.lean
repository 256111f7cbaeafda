set_option maxRecDepth 4000 in
theorem fX2_ways_130_10_12_i (m : xmm) {z : Int32 × xmm} (h : ((fX3_everyPost 10 m).bind fun (w1 : Int32 × xmm) => bX2_ways_130_10_12_8 w1.1 (0 : Int32) w1.2) = some z) : fX2_ways_130_10_12 m = some z := by
  refine xstI ?_
  show xT 19 5 0 [(0, .ref 130), (1, .ref 10), (2, .ref 12)] [] m (some (.int z.1), z.2)
  refine e_aload_n rfl rfl rfl (xnm_no rfl) ?_
  obtain ⟨w1, hw2, h⟩ := xbd_some h
  refine e_cIV (hc := hw2) (rest := []) rfl rfl rfl rfl rfl rfl rfl rfl (xnm_no rfl) ?_
  refine e_istore_n rfl rfl (xnm_no rfl) ?_
  refine e_iconst (x := 0) rfl (by decide) (xnm_no rfl) ?_
  refine e_istore rfl rfl rfl ?_
  exact xlfI h
set_option maxRecDepth 4000 in
theorem bX2_ways_130_10_12_8_i (v3 : Int32) (v4 : Int32) (m : xmm) {z : Int32 × xmm} (h : (if v3 < v4 then bX2_ways_130_10_12_51 v3 (1 : Int32) (1 : Int32) m else if (256 : Int32) ≤ v4 then bX2_ways_130_10_12_51 v3 (1 : Int32) (1 : Int32) m else (fX9_isAlike 11 v4 v3 m).bind fun (w1 : Int32 × xmm) => xgd (xinb 256 v4) (xgd (xz01 w1.1) (xlt (xwi w1.2 131 (v4).toNatClampNeg w1.1) fun (m5 : xmm) => bX2_ways_130_10_12_8 v3 (v4 + (1 : Int32)) m5))) = some z) : bX2_ways_130_10_12_8 v3 v4 m = some z := by
  refine xstI ?_
  show xT 19 5 8 [(0, .ref 130), (1, .ref 10), (2, .ref 12), (3, .int v3), (4, .int v4)] [] m (some (.int z.1), z.2)
  refine e_iload rfl rfl (xnm_no rfl) ?_
  refine e_iload_n rfl rfl (xnm_no rfl) ?_
  refine e_icmp_gt (t := 45) rfl rfl (xnm_no rfl) (xnm_no rfl) h (fun h => ?_) (fun h => ?_)
  · refine e_iconst (x := 1) rfl (by decide) (xnm_no rfl) ?_
    refine e_istore rfl rfl (xnm_no rfl) ?_
    refine e_iconst (x := 1) rfl (by decide) (xnm_no rfl) ?_
    refine e_istore rfl rfl rfl ?_
    exact xlfI h
  · refine e_iload rfl rfl (xnm_no rfl) ?_
    refine e_sipush (x := 256) rfl (by decide) (xnm_no rfl) ?_
    refine e_icmp_ge (t := 45) rfl rfl (xnm_no rfl) (xnm_no rfl) h (fun h => ?_) (fun h => ?_)
    · refine e_iconst (x := 1) rfl (by decide) (xnm_no rfl) ?_
      refine e_istore rfl rfl (xnm_no rfl) ?_
      refine e_iconst (x := 1) rfl (by decide) (xnm_no rfl) ?_
      refine e_istore rfl rfl rfl ?_
      exact xlfI h
    · refine e_aload_n rfl rfl rfl (xnm_no rfl) ?_
      refine e_getR (r := 131) rfl rfl rfl rfl rfl (xnm_no rfl) ?_
      refine e_iload rfl rfl (xnm_no rfl) ?_
      refine e_aload_n rfl rfl rfl (xnm_no rfl) ?_
      refine e_getR (r := 11) rfl rfl rfl rfl rfl (xnm_no rfl) ?_
      refine e_iload rfl rfl (xnm_no rfl) ?_
      refine e_iload_n rfl rfl (xnm_no rfl) ?_
      obtain ⟨w1, hw2, h⟩ := xbd_some h
      refine e_cIS (hc := hw2) (rest := [.int _, .ref 131]) rfl rfl rfl rfl rfl rfl rfl rfl (xnm_no rfl) ?_
      obtain ⟨g3, h⟩ := xgd_some h
      obtain ⟨g4, h⟩ := xgd_some h
      refine e_zast rfl g3 g4 (xnm_no rfl) ?_
      replace h := xlt_b h
      refine e_iinc (y := 1) rfl rfl rfl (by decide) (xnm_no rfl) ?_
      refine e_goto (t := 8) rfl rfl rfl ?_
      exact xlfI h
set_option maxRecDepth 4000 in
theorem bX2_ways_130_10_12_51_i (v3 : Int32) (v4 : Int32) (v5 : Int32) (m : xmm) {z : Int32 × xmm} (h : (if v3 < v5 then some (v4, m) else if (256 : Int32) ≤ v5 then some (v4, m) else xgd (xinb 256 v5) (if (m.1 131 (v5).toNatClampNeg) = 0 then bX2_ways_130_10_12_51 v3 v4 (v5 + (1 : Int32)) m else (fX2_isOverlapped_130 v5 v3 m).bind fun (w2 : Int32 × xmm) => if w2.1 = 0 then (fX2_ownWays 10 12 v5 w2.2).bind fun (w4 : Int32 × xmm) => bX2_ways_130_10_12_51 v3 (v4 * w4.1) (v5 + (1 : Int32)) w4.2 else bX2_ways_130_10_12_51 v3 v4 (v5 + (1 : Int32)) w2.2)) = some z) : bX2_ways_130_10_12_51 v3 v4 v5 m = some z := by
  refine xstI ?_
  show xT 19 5 51 [(0, .ref 130), (1, .ref 10), (2, .ref 12), (3, .int v3), (4, .int v4), (5, .int v5)] [] m (some (.int z.1), z.2)
  refine e_iload rfl rfl (xnm_no rfl) ?_
  refine e_iload_n rfl rfl (xnm_no rfl) ?_
  refine e_icmp_gt (t := 103) rfl rfl (xnm_no rfl) (xnm_no rfl) h (fun h => ?_) (fun h => ?_)
  · refine e_iload rfl rfl (xnm_no rfl) ?_
    cases h
    exact e_retI rfl rfl
  · refine e_iload rfl rfl (xnm_no rfl) ?_
    refine e_sipush (x := 256) rfl (by decide) (xnm_no rfl) ?_
    refine e_icmp_ge (t := 103) rfl rfl (xnm_no rfl) (xnm_no rfl) h (fun h => ?_) (fun h => ?_)
    · refine e_iload rfl rfl (xnm_no rfl) ?_
      cases h
      exact e_retI rfl rfl
    · refine e_aload_n rfl rfl rfl (xnm_no rfl) ?_
      refine e_getR (r := 131) rfl rfl rfl rfl rfl (xnm_no rfl) ?_
      refine e_iload rfl rfl (xnm_no rfl) ?_
      obtain ⟨g1, h⟩ := xgd_some h
      refine e_bald rfl (xor2 g1) (xnm_no rfl) ?_
      refine e_if_eq (t := 97) rfl rfl (xnm_no rfl) (xnm_no rfl) h (fun h => ?_) (fun h => ?_)
      · refine e_iinc (y := 1) rfl rfl rfl (by decide) (xnm_no rfl) ?_
        refine e_goto (t := 51) rfl rfl rfl ?_
        exact xlfI h
      · refine e_aload_n rfl rfl rfl (xnm_no rfl) ?_
        refine e_iload rfl rfl (xnm_no rfl) ?_
        refine e_iload_n rfl rfl (xnm_no rfl) ?_
        obtain ⟨w2, hw3, h⟩ := xbd_some h
        refine e_cIV (hc := hw3) (rest := []) rfl rfl rfl rfl rfl rfl rfl rfl (xnm_no rfl) ?_
        refine e_if_ne (t := 97) rfl rfl (xnm_no rfl) (xnm_no rfl) h (fun h => ?_) (fun h => ?_)
        · refine e_iinc (y := 1) rfl rfl rfl (by decide) (xnm_no rfl) ?_
          refine e_goto (t := 51) rfl rfl rfl ?_
          exact xlfI h
        · refine e_iload rfl rfl (xnm_no rfl) ?_
          refine e_aload_n rfl rfl rfl (xnm_no rfl) ?_
          refine e_aload_n rfl rfl rfl (xnm_no rfl) ?_
          refine e_iload rfl rfl (xnm_no rfl) ?_
          obtain ⟨w4, hw5, h⟩ := xbd_some h
          refine e_cIS (hc := hw5) (rest := [.int _]) rfl rfl rfl rfl rfl rfl rfl rfl (xnm_no rfl) ?_
          refine e_imul rfl (xnm_no rfl) ?_
          refine e_istore rfl rfl (xnm_no rfl) ?_
          refine e_iinc (y := 1) rfl rfl rfl (by decide) (xnm_no rfl) ?_
          refine e_goto (t := 51) rfl rfl rfl ?_
          exact xlfI h
set_option maxRecDepth 4000 in
theorem fX0_countSteps_109_i (m : xmm) {z : Int32 × xmm} (h : (some ((m.1 109 4), m)) = some z) : fX0_countSteps_109 m = some z := by
  refine xstI ?_
  show xT 5 0 0 [(0, .ref 109)] [] m (some (.int z.1), z.2)
  refine e_aload_n rfl rfl rfl (xnm_no rfl) ?_
  refine e_getI rfl rfl rfl rfl (xnm_no rfl) ?_
  cases h
  exact e_retI rfl rfl
set_option maxRecDepth 4000 in
theorem fX11_isCrossed_0_i (m : xmm) {z : Int32 × xmm} (h : ((fX1_isOrdered_97 m).bind fun (w1 : Int32 × xmm) => if w1.1 = 0 then some ((0 : Int32), w1.2) else (fX1_isOrdered_103 w1.2).bind fun (w3 : Int32 × xmm) => if w3.1 = 0 then some ((0 : Int32), w3.2) else some ((1 : Int32), w3.2)) = some z) : fX11_isCrossed_0 m = some z := by
  refine xstI ?_
  show xT 151 1 0 [(0, .ref 0)] [] m (some (.int z.1), z.2)
  refine e_aload_n rfl rfl rfl (xnm_no rfl) ?_
  refine e_getR (r := 97) rfl rfl rfl rfl rfl (xnm_no rfl) ?_
  obtain ⟨w1, hw2, h⟩ := xbd_some h
  refine e_cIV (hc := hw2) (rest := []) rfl rfl rfl rfl rfl rfl rfl rfl (xnm_no rfl) ?_
  refine e_if_eq (t := 24) rfl rfl (xnm_no rfl) (xnm_no rfl) h (fun h => ?_) (fun h => ?_)
  · refine e_iconst (x := 0) rfl (by decide) (xnm_no rfl) ?_
    cases h
    exact e_retI rfl (by decide)
  · refine e_aload_n rfl rfl rfl (xnm_no rfl) ?_
    refine e_getR (r := 103) rfl rfl rfl rfl rfl (xnm_no rfl) ?_
    obtain ⟨w3, hw4, h⟩ := xbd_some h
    refine e_cIV (hc := hw4) (rest := []) rfl rfl rfl rfl rfl rfl rfl rfl (xnm_no rfl) ?_
    refine e_if_eq (t := 24) rfl rfl (xnm_no rfl) (xnm_no rfl) h (fun h => ?_) (fun h => ?_)
    · refine e_iconst (x := 0) rfl (by decide) (xnm_no rfl) ?_
      cases h
      exact e_retI rfl (by decide)
    · refine e_iconst (x := 1) rfl (by decide) (xnm_no rfl) ?_
      refine e_goto (t := 25) rfl rfl (xnm_no rfl) ?_
      cases h
      exact e_retI rfl (by decide)
set_option maxRecDepth 4000 in
theorem fX11_network_0_i (v1 : Int32) (m : xmm) {z : Int32 × xmm} (h : ((fX11_study_0 m).bind fun (w1 : xmm) => if v1 = 0 then (fX1_isOrdered_97 w1).bind fun (w4 : Int32 × xmm) => (fX11_bit w4.1 w4.2).bind fun (w6 : Int32 × xmm) => some (w6.1, w6.2) else if v1 = 1 then (fX1_countAll_97 w1).bind fun (w9 : Int32 × xmm) => some (w9.1, w9.2) else if v1 = 2 then (fX1_countOdd_97 w1).bind fun (w12 : Int32 × xmm) => some (w12.1, w12.2) else if v1 = 3 then (fX1_isOrdered_97 w1).bind fun (w15 : Int32 × xmm) => if w15.1 = 0 then some ((0 : Int32), w15.2) else (fX2_ways_130_10_12 w15.2).bind fun (w17 : Int32 × xmm) => some (w17.1, w17.2) else if v1 = 4 then (fX1_isOrdered_97 w1).bind fun (w20 : Int32 × xmm) => if w20.1 = 0 then some ((-2 : Int32), w20.2) else (fX0_countSteps_109 w20.2).bind fun (w22 : Int32 × xmm) => some (w22.1, w22.2) else if v1 = 5 then (fX11_isCrossed_0 w1).bind fun (w25 : Int32 × xmm) => (fX11_bit w25.1 w25.2).bind fun (w27 : Int32 × xmm) => some (w27.1, w27.2) else if v1 = 6 then (fX1_isOrdered_103 w1).bind fun (w30 : Int32 × xmm) => (fX11_bit w30.1 w30.2).bind fun (w32 : Int32 × xmm) => some (w32.1, w32.2) else if v1 = 7 then (fX3_everyPost 10 w1).bind fun (w35 : Int32 × xmm) => (fX9_parts 11 w35.1 w35.2).bind fun (w37 : Int32 × xmm) => some (w37.1, w37.2) else some ((-1 : Int32), w1)) = some z) : fX11_network_0 v1 m = some z := by
  refine xstI ?_
  show xT 131 6 0 [(0, .ref 0), (1, .int v1)] [] m (some (.int z.1), z.2)
  refine e_aload_n rfl rfl rfl (xnm_no rfl) ?_
  obtain ⟨w1, hw2, h⟩ := xbd_some h
  refine e_cVV (hc := hw2) (rest := []) rfl rfl rfl rfl rfl rfl rfl rfl (xnm_no rfl) ?_
  refine e_iload_n rfl rfl (xnm_no rfl) ?_
  by_cases c3 : v1 = 0
  · rw [if_pos c3] at h
    refine e_sw (t := 52) (o := 47) rfl (by decide) (xsw_p c3) rfl (xnm_no rfl) ?_
    refine e_aload_n rfl rfl rfl (xnm_no rfl) ?_
    refine e_getR (r := 97) rfl rfl rfl rfl rfl (xnm_no rfl) ?_
    obtain ⟨w4, hw5, h⟩ := xbd_some h
    refine e_cIV (hc := hw5) (rest := []) rfl rfl rfl rfl rfl rfl rfl rfl (xnm_no rfl) ?_
    obtain ⟨w6, hw7, h⟩ := xbd_some h
    refine e_cIS (hc := hw7) (rest := []) rfl rfl rfl rfl rfl rfl rfl rfl (xnm_no rfl) ?_
    cases h
    exact e_retI rfl rfl
  · rw [if_neg c3] at h
    by_cases c8 : v1 = 1
    · rw [if_pos c8] at h
      refine e_sw (t := 63) (o := 58) rfl (by decide) (xsw_n c3 (xsw_p c8)) rfl (xnm_no rfl) ?_
      refine e_aload_n rfl rfl rfl (xnm_no rfl) ?_
      refine e_getR (r := 97) rfl rfl rfl rfl rfl (xnm_no rfl) ?_
      obtain ⟨w9, hw10, h⟩ := xbd_some h
      refine e_cIV (hc := hw10) (rest := []) rfl rfl rfl rfl rfl rfl rfl rfl (xnm_no rfl) ?_
      cases h
      exact e_retI rfl rfl
    · rw [if_neg c8] at h
      by_cases c11 : v1 = 2
      · rw [if_pos c11] at h
        refine e_sw (t := 71) (o := 66) rfl (by decide) (xsw_n c3 (xsw_n c8 (xsw_p c11))) rfl (xnm_no rfl) ?_
        refine e_aload_n rfl rfl rfl (xnm_no rfl) ?_
        refine e_getR (r := 97) rfl rfl rfl rfl rfl (xnm_no rfl) ?_
        obtain ⟨w12, hw13, h⟩ := xbd_some h
        refine e_cIV (hc := hw13) (rest := []) rfl rfl rfl rfl rfl rfl rfl rfl (xnm_no rfl) ?_
        cases h
        exact e_retI rfl rfl
      · rw [if_neg c11] at h
        by_cases c14 : v1 = 3
        · rw [if_pos c14] at h
          refine e_sw (t := 79) (o := 74) rfl (by decide) (xsw_n c3 (xsw_n c8 (xsw_n c11 (xsw_p c14)))) rfl (xnm_no rfl) ?_
          refine e_aload_n rfl rfl rfl (xnm_no rfl) ?_
          refine e_getR (r := 97) rfl rfl rfl rfl rfl (xnm_no rfl) ?_
          obtain ⟨w15, hw16, h⟩ := xbd_some h
          refine e_cIV (hc := hw16) (rest := []) rfl rfl rfl rfl rfl rfl rfl rfl (xnm_no rfl) ?_
          refine e_if_eq (t := 107) rfl rfl (xnm_no rfl) (xnm_no rfl) h (fun h => ?_) (fun h => ?_)
          · refine e_iconst (x := 0) rfl (by decide) (xnm_no rfl) ?_
            cases h
            exact e_retI rfl rfl
          · refine e_aload_n rfl rfl rfl (xnm_no rfl) ?_
            refine e_getR (r := 130) rfl rfl rfl rfl rfl (xnm_no rfl) ?_
            refine e_aload_n rfl rfl rfl (xnm_no rfl) ?_
            refine e_getR (r := 10) rfl rfl rfl rfl rfl (xnm_no rfl) ?_
            refine e_aload_n rfl rfl rfl (xnm_no rfl) ?_
            refine e_getR (r := 12) rfl rfl rfl rfl rfl (xnm_no rfl) ?_
            obtain ⟨w17, hw18, h⟩ := xbd_some h
            refine e_cIV (hc := hw18) (rest := []) rfl rfl rfl rfl rfl rfl rfl rfl (xnm_no rfl) ?_
            refine e_goto (t := 108) rfl rfl (xnm_no rfl) ?_
            cases h
            exact e_retI rfl rfl
        · rw [if_neg c14] at h
          by_cases c19 : v1 = 4
          · rw [if_pos c19] at h
            refine e_sw (t := 109) (o := 104) rfl (by decide) (xsw_n c3 (xsw_n c8 (xsw_n c11 (xsw_n c14 (xsw_p c19))))) rfl (xnm_no rfl) ?_
            refine e_aload_n rfl rfl rfl (xnm_no rfl) ?_
            refine e_getR (r := 97) rfl rfl rfl rfl rfl (xnm_no rfl) ?_
            obtain ⟨w20, hw21, h⟩ := xbd_some h
            refine e_cIV (hc := hw21) (rest := []) rfl rfl rfl rfl rfl rfl rfl rfl (xnm_no rfl) ?_
            refine e_if_eq (t := 129) rfl rfl (xnm_no rfl) (xnm_no rfl) h (fun h => ?_) (fun h => ?_)
            · refine e_bipush (x := -2) rfl (by decide) (xnm_no rfl) ?_
              cases h
              exact e_retI rfl rfl
            · refine e_aload_n rfl rfl rfl (xnm_no rfl) ?_
              refine e_getR (r := 109) rfl rfl rfl rfl rfl (xnm_no rfl) ?_
              obtain ⟨w22, hw23, h⟩ := xbd_some h
              refine e_cIV (hc := hw23) (rest := []) rfl rfl rfl rfl rfl rfl rfl rfl (xnm_no rfl) ?_
              refine e_goto (t := 131) rfl rfl (xnm_no rfl) ?_
              cases h
              exact e_retI rfl rfl
          · rw [if_neg c19] at h
            by_cases c24 : v1 = 5
            · rw [if_pos c24] at h
              refine e_sw (t := 132) (o := 127) rfl (by decide) (xsw_n c3 (xsw_n c8 (xsw_n c11 (xsw_n c14 (xsw_n c19 (xsw_p c24)))))) rfl (xnm_no rfl) ?_
              refine e_aload_n rfl rfl rfl (xnm_no rfl) ?_
              obtain ⟨w25, hw26, h⟩ := xbd_some h
              refine e_cIV (hc := hw26) (rest := []) rfl rfl rfl rfl rfl rfl rfl rfl (xnm_no rfl) ?_
              obtain ⟨w27, hw28, h⟩ := xbd_some h
              refine e_cIS (hc := hw28) (rest := []) rfl rfl rfl rfl rfl rfl rfl rfl (xnm_no rfl) ?_
              cases h
              exact e_retI rfl rfl
            · rw [if_neg c24] at h
              by_cases c29 : v1 = 6
              · rw [if_pos c29] at h
                refine e_sw (t := 140) (o := 135) rfl (by decide) (xsw_n c3 (xsw_n c8 (xsw_n c11 (xsw_n c14 (xsw_n c19 (xsw_n c24 (xsw_p c29))))))) rfl (xnm_no rfl) ?_
                refine e_aload_n rfl rfl rfl (xnm_no rfl) ?_
                refine e_getR (r := 103) rfl rfl rfl rfl rfl (xnm_no rfl) ?_
                obtain ⟨w30, hw31, h⟩ := xbd_some h
                refine e_cIV (hc := hw31) (rest := []) rfl rfl rfl rfl rfl rfl rfl rfl (xnm_no rfl) ?_
                obtain ⟨w32, hw33, h⟩ := xbd_some h
                refine e_cIS (hc := hw33) (rest := []) rfl rfl rfl rfl rfl rfl rfl rfl (xnm_no rfl) ?_
                cases h
                exact e_retI rfl rfl
              · rw [if_neg c29] at h
                by_cases c34 : v1 = 7
                · rw [if_pos c34] at h
                  refine e_sw (t := 151) (o := 146) rfl (by decide) (xsw_n c3 (xsw_n c8 (xsw_n c11 (xsw_n c14 (xsw_n c19 (xsw_n c24 (xsw_n c29 (xsw_p c34)))))))) rfl (xnm_no rfl) ?_
                  refine e_aload_n rfl rfl rfl (xnm_no rfl) ?_
                  refine e_getR (r := 10) rfl rfl rfl rfl rfl (xnm_no rfl) ?_
                  refine e_getR (r := 11) rfl rfl rfl rfl rfl (xnm_no rfl) ?_
                  refine e_aload_n rfl rfl rfl (xnm_no rfl) ?_
                  refine e_getR (r := 10) rfl rfl rfl rfl rfl (xnm_no rfl) ?_
                  obtain ⟨w35, hw36, h⟩ := xbd_some h
                  refine e_cIV (hc := hw36) (rest := [.ref 11]) rfl rfl rfl rfl rfl rfl rfl rfl (xnm_no rfl) ?_
                  obtain ⟨w37, hw38, h⟩ := xbd_some h
                  refine e_cIS (hc := hw38) (rest := []) rfl rfl rfl rfl rfl rfl rfl rfl (xnm_no rfl) ?_
                  cases h
                  exact e_retI rfl rfl
                · rw [if_neg c34] at h
                  refine e_sw (t := 169) (o := 164) rfl (by decide) (xsw_n c3 (xsw_n c8 (xsw_n c11 (xsw_n c14 (xsw_n c19 (xsw_n c24 (xsw_n c29 (xsw_n c34 xsw_d)))))))) rfl (xnm_no rfl) ?_
                  refine e_iconst (x := -1) rfl (by decide) (xnm_no rfl) ?_
                  cases h
                  exact e_retI rfl rfl
set_option maxRecDepth 4000 in
theorem fX12_fromOf_144_i (v1 : Int32) (m : xmm) {z : Int32 × xmm} (h : (xgd (xinb 28 v1) (if (m.1 169 (v1).toNatClampNeg) = 0 then some ((m.1 167 (v1).toNatClampNeg), m) else some ((m.1 168 (v1).toNatClampNeg), m))) = some z) : fX12_fromOf_144 v1 m = some z := by
  refine xstI ?_
  show xT 215 0 0 [(0, .ref 144), (1, .int v1)] [] m (some (.int z.1), z.2)
  refine e_aload_n rfl rfl rfl (xnm_no rfl) ?_
  refine e_getR (r := 169) rfl rfl rfl rfl rfl (xnm_no rfl) ?_
  refine e_iload_n rfl rfl (xnm_no rfl) ?_
  obtain ⟨g1, h⟩ := xgd_some h
  refine e_iald rfl g1 (xnm_no rfl) ?_
  refine e_if_ne (t := 18) rfl rfl (xnm_no rfl) (xnm_no rfl) h (fun h => ?_) (fun h => ?_)
  · refine e_aload_n rfl rfl rfl (xnm_no rfl) ?_
    refine e_getR (r := 168) rfl rfl rfl rfl rfl (xnm_no rfl) ?_
    refine e_iload_n rfl rfl (xnm_no rfl) ?_
    refine e_iald rfl g1 (xnm_no rfl) ?_
    cases h
    exact e_retI rfl rfl
  · refine e_aload_n rfl rfl rfl (xnm_no rfl) ?_
    refine e_getR (r := 167) rfl rfl rfl rfl rfl (xnm_no rfl) ?_
    refine e_iload_n rfl rfl (xnm_no rfl) ?_
    refine e_iald rfl g1 (xnm_no rfl) ?_
    refine e_goto (t := 24) rfl rfl (xnm_no rfl) ?_
    cases h
    exact e_retI rfl rfl
set_option maxRecDepth 4000 in
theorem fX12_toOf_144_i (v1 : Int32) (m : xmm) {z : Int32 × xmm} (h : (xgd (xinb 28 v1) (if (m.1 169 (v1).toNatClampNeg) = 0 then some ((m.1 168 (v1).toNatClampNeg), m) else some ((m.1 167 (v1).toNatClampNeg), m))) = some z) : fX12_toOf_144 v1 m = some z := by
  refine xstI ?_
  show xT 216 0 0 [(0, .ref 144), (1, .int v1)] [] m (some (.int z.1), z.2)
  refine e_aload_n rfl rfl rfl (xnm_no rfl) ?_
  refine e_getR (r := 169) rfl rfl rfl rfl rfl (xnm_no rfl) ?_
  refine e_iload_n rfl rfl (xnm_no rfl) ?_
  obtain ⟨g1, h⟩ := xgd_some h
  refine e_iald rfl g1 (xnm_no rfl) ?_
  refine e_if_ne (t := 18) rfl rfl (xnm_no rfl) (xnm_no rfl) h (fun h => ?_) (fun h => ?_)
  · refine e_aload_n rfl rfl rfl (xnm_no rfl) ?_
    refine e_getR (r := 167) rfl rfl rfl rfl rfl (xnm_no rfl) ?_
    refine e_iload_n rfl rfl (xnm_no rfl) ?_
    refine e_iald rfl g1 (xnm_no rfl) ?_
    cases h
    exact e_retI rfl rfl
  · refine e_aload_n rfl rfl rfl (xnm_no rfl) ?_
    refine e_getR (r := 168) rfl rfl rfl rfl rfl (xnm_no rfl) ?_
    refine e_iload_n rfl rfl (xnm_no rfl) ?_
    refine e_iald rfl g1 (xnm_no rfl) ?_
    refine e_goto (t := 24) rfl rfl (xnm_no rfl) ?_
    cases h
    exact e_retI rfl rfl
set_option maxRecDepth 4000 in
theorem fX12_takesOff_144_i (v1 : Int32) (m : xmm) {z : xmm} (h : ((fX12_fromOf_144 v1 m).bind fun (w1 : Int32 × xmm) => xgd (xinb 8 w1.1) ((fX12_toOf_144 v1 w1.2).bind fun (w4 : Int32 × xmm) => xlt (xwi w4.2 170 (w1.1).toNatClampNeg ((w1.2.1 170 (w1.1).toNatClampNeg) &&& (((1 : Int32) <<< (w4.1 &&& 31)) ^^^ (-1 : Int32)))) fun (m6 : xmm) => some m6)) = some z) : fX12_takesOff_144 v1 m = some z := by
  refine xstV ?_
  show xT 218 1 0 [(0, .ref 144), (1, .int v1)] [] m (none, z)
  refine e_aload_n rfl rfl rfl (xnm_no rfl) ?_
  refine e_getR (r := 170) rfl rfl rfl rfl rfl (xnm_no rfl) ?_
  refine e_aload_n rfl rfl rfl (xnm_no rfl) ?_
  refine e_iload_n rfl rfl (xnm_no rfl) ?_
  obtain ⟨w1, hw2, h⟩ := xbd_some h
  refine e_cIV (hc := hw2) (rest := [.ref 170]) rfl rfl rfl rfl rfl rfl rfl rfl (xnm_no rfl) ?_
  refine e_dup2 rfl rfl rfl (xnm_no rfl) ?_
  obtain ⟨g3, h⟩ := xgd_some h
  refine e_iald rfl g3 (xnm_no rfl) ?_
  refine e_iconst (x := 1) rfl (by decide) (xnm_no rfl) ?_
  refine e_aload_n rfl rfl rfl (xnm_no rfl) ?_
  refine e_iload_n rfl rfl (xnm_no rfl) ?_
  obtain ⟨w4, hw5, h⟩ := xbd_some h
  refine e_cIV (hc := hw5) (rest := [.int _, .int _, .int _, .ref 170]) rfl rfl rfl rfl rfl rfl rfl rfl (xnm_no rfl) ?_
  refine e_ishl rfl (xnm_no rfl) ?_
  refine e_iconst (x := -1) rfl (by decide) (xnm_no rfl) ?_
  refine e_ixor rfl (xnm_no rfl) ?_
  refine e_iand rfl (xnm_no rfl) ?_
  refine e_iast rfl g3 (xnm_no rfl) ?_
  replace h := xlt_b h
  cases h
  exact e_retV rfl rfl
set_option maxRecDepth 4000 in
theorem fX12_putsOn_144_i (v1 : Int32) (m : xmm) {z : xmm} (h : ((fX12_fromOf_144 v1 m).bind fun (w1 : Int32 × xmm) => xgd (xinb 8 w1.1) ((fX12_toOf_144 v1 w1.2).bind fun (w4 : Int32 × xmm) => xlt (xwi w4.2 170 (w1.1).toNatClampNeg ((w1.2.1 170 (w1.1).toNatClampNeg) ||| ((1 : Int32) <<< (w4.1 &&& 31)))) fun (m6 : xmm) => some m6)) = some z) : fX12_putsOn_144 v1 m = some z := by
  refine xstV ?_
  show xT 217 1 0 [(0, .ref 144), (1, .int v1)] [] m (none, z)
  refine e_aload_n rfl rfl rfl (xnm_no rfl) ?_
  refine e_getR (r := 170) rfl rfl rfl rfl rfl (xnm_no rfl) ?_
  refine e_aload_n rfl rfl rfl (xnm_no rfl) ?_
  refine e_iload_n rfl rfl (xnm_no rfl) ?_
  obtain ⟨w1, hw2, h⟩ := xbd_some h
  refine e_cIV (hc := hw2) (rest := [.ref 170]) rfl rfl rfl rfl rfl rfl rfl rfl (xnm_no rfl) ?_
  refine e_dup2 rfl rfl rfl (xnm_no rfl) ?_
  obtain ⟨g3, h⟩ := xgd_some h
  refine e_iald rfl g3 (xnm_no rfl) ?_
  refine e_iconst (x := 1) rfl (by decide) (xnm_no rfl) ?_
  refine e_aload_n rfl rfl rfl (xnm_no rfl) ?_
  refine e_iload_n rfl rfl (xnm_no rfl) ?_
  obtain ⟨w4, hw5, h⟩ := xbd_some h
  refine e_cIV (hc := hw5) (rest := [.int _, .int _, .int _, .ref 170]) rfl rfl rfl rfl rfl rfl rfl rfl (xnm_no rfl) ?_
  refine e_ishl rfl (xnm_no rfl) ?_
  refine e_ior rfl (xnm_no rfl) ?_
  refine e_iast rfl g3 (xnm_no rfl) ?_
  replace h := xlt_b h
  cases h
  exact e_retV rfl rfl
set_option maxRecDepth 4000 in
theorem fX12_agrees_144_i (v1 : Int32) (m : xmm) {z : Int32 × xmm} (h : ((fX12_fromOf_144 v1 m).bind fun (w1 : Int32 × xmm) => (fX12_toOf_144 v1 w1.2).bind fun (w3 : Int32 × xmm) => bX12_agrees_144_15 w1.1 w3.1 (0 : Int32) w3.2) = some z) : fX12_agrees_144 v1 m = some z := by
  refine xstI ?_
  show xT 219 1 0 [(0, .ref 144), (1, .int v1)] [] m (some (.int z.1), z.2)
  refine e_aload_n rfl rfl rfl (xnm_no rfl) ?_
  refine e_iload_n rfl rfl (xnm_no rfl) ?_
  obtain ⟨w1, hw2, h⟩ := xbd_some h
  refine e_cIV (hc := hw2) (rest := []) rfl rfl rfl rfl rfl rfl rfl rfl (xnm_no rfl) ?_
  refine e_istore_n rfl rfl (xnm_no rfl) ?_
  refine e_aload_n rfl rfl rfl (xnm_no rfl) ?_
  refine e_iload_n rfl rfl (xnm_no rfl) ?_
  obtain ⟨w3, hw4, h⟩ := xbd_some h
  refine e_cIV (hc := hw4) (rest := []) rfl rfl rfl rfl rfl rfl rfl rfl (xnm_no rfl) ?_
  refine e_istore_n rfl rfl (xnm_no rfl) ?_
  refine e_iconst (x := 0) rfl (by decide) (xnm_no rfl) ?_
  refine e_istore rfl rfl rfl ?_
  exact xlfI h
set_option maxRecDepth 4000 in
theorem bX12_agrees_144_15_i (v2 : Int32) (v3 : Int32) (v4 : Int32) (m : xmm) {z : Int32 × xmm} (h : (if (m.1 144 17) ≤ v4 then some ((1 : Int32), m) else if v4 = v2 then bX12_agrees_144_15 v2 v3 (v4 + (1 : Int32)) m else if v4 = v3 then bX12_agrees_144_15 v2 v3 (v4 + (1 : Int32)) m else xgd (xinb 8 v4) ((fX12_has (m.1 170 (v4).toNatClampNeg) v2 m).bind fun (w2 : Int32 × xmm) => xgd (xinb 8 v3) ((fX12_has (w2.2.1 170 (v3).toNatClampNeg) v4 w2.2).bind fun (w5 : Int32 × xmm) => if w5.1 = 0 then bX12_agrees_144_91 v2 v3 v4 w2.1 w5.1 w5.2 else xgd (xinb 9 v2) ((fX12_has (w5.2.1 152 (v2).toNatClampNeg) v4 w5.2).bind fun (w8 : Int32 × xmm) => if w8.1 = 0 then some ((0 : Int32), w8.2) else if w2.1 = 0 then bX12_agrees_144_91 v2 v3 v4 w2.1 w5.1 w8.2 else some ((0 : Int32), w8.2))))) = some z) : bX12_agrees_144_15 v2 v3 v4 m = some z := by
  refine xstI ?_
  show xT 219 1 15 [(0, .ref 144), (2, .int v2), (3, .int v3), (4, .int v4)] [] m (some (.int z.1), z.2)
  refine e_iload rfl rfl (xnm_no rfl) ?_
  refine e_aload_n rfl rfl rfl (xnm_no rfl) ?_
  refine e_getI rfl rfl rfl rfl (xnm_no rfl) ?_
  refine e_icmp_ge (t := 123) rfl rfl (xnm_no rfl) (xnm_no rfl) h (fun h => ?_) (fun h => ?_)
  · refine e_iconst (x := 1) rfl (by decide) (xnm_no rfl) ?_
    cases h
    exact e_retI rfl (by decide)
  · refine e_iload rfl rfl (xnm_no rfl) ?_
    refine e_iload_n rfl rfl (xnm_no rfl) ?_
    refine e_icmp_eq (t := 117) rfl rfl (xnm_no rfl) (xnm_no rfl) h (fun h => ?_) (fun h => ?_)
    · refine e_iinc (y := 1) rfl rfl rfl (by decide) (xnm_no rfl) ?_
      refine e_goto (t := 15) rfl rfl rfl ?_
      exact xlfI h
    · refine e_iload rfl rfl (xnm_no rfl) ?_
      refine e_iload_n rfl rfl (xnm_no rfl) ?_
      refine e_icmp_ne (t := 39) rfl rfl (xnm_no rfl) (xnm_no rfl) h (fun h => ?_) (fun h => ?_)
      · refine e_aload_n rfl rfl rfl (xnm_no rfl) ?_
        refine e_getR (r := 170) rfl rfl rfl rfl rfl (xnm_no rfl) ?_
        refine e_iload rfl rfl (xnm_no rfl) ?_
        obtain ⟨g1, h⟩ := xgd_some h
        refine e_iald rfl g1 (xnm_no rfl) ?_
        refine e_iload_n rfl rfl (xnm_no rfl) ?_
        obtain ⟨w2, hw3, h⟩ := xbd_some h
        refine e_cIS (hc := hw3) (rest := []) rfl rfl rfl rfl rfl rfl rfl rfl (xnm_no rfl) ?_
        refine e_istore rfl rfl (xnm_no rfl) ?_
        refine e_aload_n rfl rfl rfl (xnm_no rfl) ?_
        refine e_getR (r := 170) rfl rfl rfl rfl rfl (xnm_no rfl) ?_
        refine e_iload_n rfl rfl (xnm_no rfl) ?_
        obtain ⟨g4, h⟩ := xgd_some h
        refine e_iald rfl g4 (xnm_no rfl) ?_
        refine e_iload rfl rfl (xnm_no rfl) ?_
        obtain ⟨w5, hw6, h⟩ := xbd_some h
        refine e_cIS (hc := hw6) (rest := []) rfl rfl rfl rfl rfl rfl rfl rfl (xnm_no rfl) ?_
        refine e_istore rfl rfl (xnm_no rfl) ?_
        refine e_iload rfl rfl (xnm_no rfl) ?_
        refine e_if_eq (t := 91) rfl rfl rfl (xnm_no rfl) h (fun h => ?_) (fun h => ?_)
        · exact xlfI h
        · refine e_aload_n rfl rfl rfl (xnm_no rfl) ?_
          refine e_getR (r := 152) rfl rfl rfl rfl rfl (xnm_no rfl) ?_
          refine e_iload_n rfl rfl (xnm_no rfl) ?_
          obtain ⟨g7, h⟩ := xgd_some h
          refine e_iald rfl g7 (xnm_no rfl) ?_
          refine e_iload rfl rfl (xnm_no rfl) ?_
          obtain ⟨w8, hw9, h⟩ := xbd_some h
          refine e_cIS (hc := hw9) (rest := []) rfl rfl rfl rfl rfl rfl rfl rfl (xnm_no rfl) ?_
          refine e_if_eq (t := 89) rfl rfl (xnm_no rfl) (xnm_no rfl) h (fun h => ?_) (fun h => ?_)
          · refine e_iconst (x := 0) rfl (by decide) (xnm_no rfl) ?_
            cases h
            exact e_retI rfl (by decide)
          · refine e_iload rfl rfl (xnm_no rfl) ?_
            refine e_if_eq (t := 91) rfl rfl rfl (xnm_no rfl) h (fun h => ?_) (fun h => ?_)
            · exact xlfI h
            · refine e_iconst (x := 0) rfl (by decide) (xnm_no rfl) ?_
              cases h
              exact e_retI rfl (by decide)
      · refine e_goto (t := 117) rfl rfl (xnm_no rfl) ?_
        refine e_iinc (y := 1) rfl rfl rfl (by decide) (xnm_no rfl) ?_
        refine e_goto (t := 15) rfl rfl rfl ?_
        exact xlfI h
set_option maxRecDepth 4000 in
theorem bX12_agrees_144_91_i (v2 : Int32) (v3 : Int32) (v4 : Int32) (v5 : Int32) (v6 : Int32) (m : xmm) {z : Int32 × xmm} (h : (if v5 = 0 then bX12_agrees_144_15 v2 v3 (v4 + (1 : Int32)) m else xgd (xinb 9 v4) ((fX12_has (m.1 152 (v4).toNatClampNeg) v3 m).bind fun (w2 : Int32 × xmm) => if w2.1 = 0 then some ((0 : Int32), w2.2) else if v6 = 0 then bX12_agrees_144_15 v2 v3 (v4 + (1 : Int32)) w2.2 else some ((0 : Int32), w2.2))) = some z) : bX12_agrees_144_91 v2 v3 v4 v5 v6 m = some z := by
  refine xstI ?_
  show xT 219 1 91 [(0, .ref 144), (2, .int v2), (3, .int v3), (4, .int v4), (5, .int v5), (6, .int v6)] [] m (some (.int z.1), z.2)
  refine e_iload rfl rfl (xnm_no rfl) ?_
  refine e_if_eq (t := 117) rfl rfl (xnm_no rfl) (xnm_no rfl) h (fun h => ?_) (fun h => ?_)
  · refine e_iinc (y := 1) rfl rfl rfl (by decide) (xnm_no rfl) ?_
    refine e_goto (t := 15) rfl rfl rfl ?_
    exact xlfI h
  · refine e_aload_n rfl rfl rfl (xnm_no rfl) ?_
    refine e_getR (r := 152) rfl rfl rfl rfl rfl (xnm_no rfl) ?_
    refine e_iload rfl rfl (xnm_no rfl) ?_
    obtain ⟨g1, h⟩ := xgd_some h
    refine e_iald rfl g1 (xnm_no rfl) ?_
    refine e_iload_n rfl rfl (xnm_no rfl) ?_
    obtain ⟨w2, hw3, h⟩ := xbd_some h
    refine e_cIS (hc := hw3) (rest := []) rfl rfl rfl rfl rfl rfl rfl rfl (xnm_no rfl) ?_
    refine e_if_eq (t := 115) rfl rfl (xnm_no rfl) (xnm_no rfl) h (fun h => ?_) (fun h => ?_)
    · refine e_iconst (x := 0) rfl (by decide) (xnm_no rfl) ?_
      cases h
      exact e_retI rfl (by decide)
    · refine e_iload rfl rfl (xnm_no rfl) ?_
      refine e_if_eq (t := 117) rfl rfl (xnm_no rfl) (xnm_no rfl) h (fun h => ?_) (fun h => ?_)
      · refine e_iinc (y := 1) rfl rfl rfl (by decide) (xnm_no rfl) ?_
        refine e_goto (t := 15) rfl rfl rfl ?_
        exact xlfI h
      · refine e_iconst (x := 0) rfl (by decide) (xnm_no rfl) ?_
        cases h
        exact e_retI rfl (by decide)
set_option maxRecDepth 4000 in
theorem fX12_ways_144_i (m : xmm) {z : Int32 × xmm} (h : (bX12_ways_144_4 (0 : Int32) (1 : Int32) m) = some z) : fX12_ways_144 m = some z := by
  refine xstI ?_
  show xT 214 2 0 [(0, .ref 144)] [] m (some (.int z.1), z.2)
  refine e_iconst (x := 0) rfl (by decide) (xnm_no rfl) ?_
  refine e_istore_n rfl rfl (xnm_no rfl) ?_
  refine e_iconst (x := 1) rfl (by decide) (xnm_no rfl) ?_
  refine e_istore_n rfl rfl rfl ?_
  exact xlfI h
set_option maxRecDepth 4000 in
theorem bX12_ways_144_4_i (v1 : Int32) (v2 : Int32) (m : xmm) {z : Int32 × xmm} (h : (if (m.1 144 17) ≤ v2 then bX12_ways_144_66 v1 (0 : Int32) m else bX12_ways_144_14 v1 v2 (0 : Int32) m) = some z) : bX12_ways_144_4 v1 v2 m = some z := by
  refine xstI ?_
  show xT 214 2 4 [(0, .ref 144), (1, .int v1), (2, .int v2)] [] m (some (.int z.1), z.2)
  refine e_iload_n rfl rfl (xnm_no rfl) ?_
  refine e_aload_n rfl rfl rfl (xnm_no rfl) ?_
  refine e_getI rfl rfl rfl rfl (xnm_no rfl) ?_
  refine e_icmp_ge (t := 64) rfl rfl (xnm_no rfl) (xnm_no rfl) h (fun h => ?_) (fun h => ?_)
  · refine e_iconst (x := 0) rfl (by decide) (xnm_no rfl) ?_
    refine e_istore_n rfl rfl rfl ?_
    exact xlfI h
  · refine e_iconst (x := 0) rfl (by decide) (xnm_no rfl) ?_
    refine e_istore_n rfl rfl rfl ?_
    exact xlfI h
set_option maxRecDepth 4000 in
theorem bX12_ways_144_66_i (v1 : Int32) (v2 : Int32) (m : xmm) {z : Int32 × xmm} (h : (if (8 : Int32) ≤ v2 then if v1 = 0 then some ((1 : Int32), m) else xlt (xwi m 169 0 (-1 : Int32)) fun (m1 : xmm) => bX12_ways_144_102 v1 (0 : Int32) (0 : Int32) m1 else xgd (xinb 8 v2) (xlt (xwi m 170 (v2).toNatClampNeg (0 : Int32)) fun (m3 : xmm) => bX12_ways_144_66 v1 (v2 + (1 : Int32)) m3)) = some z) : bX12_ways_144_66 v1 v2 m = some z := by
  refine xstI ?_
  show xT 214 2 66 [(0, .ref 144), (1, .int v1), (2, .int v2)] [] m (some (.int z.1), z.2)
  refine e_iload_n rfl rfl (xnm_no rfl) ?_
  refine e_bipush (x := 8) rfl (by decide) (xnm_no rfl) ?_
  refine e_icmp_ge (t := 85) rfl rfl (xnm_no rfl) (xnm_no rfl) h (fun h => ?_) (fun h => ?_)
  · refine e_iload_n rfl rfl (xnm_no rfl) ?_
    refine e_if_ne (t := 91) rfl rfl (xnm_no rfl) (xnm_no rfl) h (fun h => ?_) (fun h => ?_)
    · refine e_iconst (x := 0) rfl (by decide) (xnm_no rfl) ?_
      refine e_istore_n rfl rfl (xnm_no rfl) ?_
      refine e_iconst (x := 0) rfl (by decide) (xnm_no rfl) ?_
      refine e_istore_n rfl rfl (xnm_no rfl) ?_
      refine e_aload_n rfl rfl rfl (xnm_no rfl) ?_
      refine e_getR (r := 169) rfl rfl rfl rfl rfl (xnm_no rfl) ?_
      refine e_iconst (x := 0) rfl (by decide) (xnm_no rfl) ?_
      refine e_iconst (x := -1) rfl (by decide) (xnm_no rfl) ?_
      refine e_iast rfl (by decide) rfl ?_
      replace h := xlt_b h
      exact xlfI h
    · refine e_iconst (x := 1) rfl (by decide) (xnm_no rfl) ?_
      cases h
      exact e_retI rfl rfl
  · refine e_aload_n rfl rfl rfl (xnm_no rfl) ?_
    refine e_getR (r := 170) rfl rfl rfl rfl rfl (xnm_no rfl) ?_
    refine e_iload_n rfl rfl (xnm_no rfl) ?_
    refine e_iconst (x := 0) rfl (by decide) (xnm_no rfl) ?_
    obtain ⟨g2, h⟩ := xgd_some h
    refine e_iast rfl g2 (xnm_no rfl) ?_
    replace h := xlt_b h
    refine e_iinc (y := 1) rfl rfl rfl (by decide) (xnm_no rfl) ?_
    refine e_goto (t := 66) rfl rfl rfl ?_
    exact xlfI h
set_option maxRecDepth 4000 in
theorem bX12_ways_144_14_i (v1 : Int32) (v2 : Int32) (v3 : Int32) (m : xmm) {z : Int32 × xmm} (h : (if v2 ≤ v3 then bX12_ways_144_4 v1 (v2 + (1 : Int32)) m else xgd (xinb 9 v3) ((fX12_has (m.1 152 (v3).toNatClampNeg) v2 m).bind fun (w2 : Int32 × xmm) => if w2.1 = 0 then bX12_ways_144_14 v1 v2 (v3 + (1 : Int32)) w2.2 else xgd (xinb 28 v1) (xlt (xwi w2.2 167 (v1).toNatClampNeg v3) fun (m5 : xmm) => xlt (xwi m5 168 (v1).toNatClampNeg v2) fun (m6 : xmm) => bX12_ways_144_14 (v1 + (1 : Int32)) v2 (v3 + (1 : Int32)) m6))) = some z) : bX12_ways_144_14 v1 v2 v3 m = some z := by
  refine xstI ?_
  show xT 214 2 14 [(0, .ref 144), (1, .int v1), (2, .int v2), (3, .int v3)] [] m (some (.int z.1), z.2)
  refine e_iload_n rfl rfl (xnm_no rfl) ?_
  refine e_iload_n rfl rfl (xnm_no rfl) ?_
  refine e_icmp_ge (t := 58) rfl rfl (xnm_no rfl) (xnm_no rfl) h (fun h => ?_) (fun h => ?_)
  · refine e_iinc (y := 1) rfl rfl rfl (by decide) (xnm_no rfl) ?_
    refine e_goto (t := 4) rfl rfl rfl ?_
    exact xlfI h
  · refine e_aload_n rfl rfl rfl (xnm_no rfl) ?_
    refine e_getR (r := 152) rfl rfl rfl rfl rfl (xnm_no rfl) ?_
    refine e_iload_n rfl rfl (xnm_no rfl) ?_
    obtain ⟨g1, h⟩ := xgd_some h
    refine e_iald rfl g1 (xnm_no rfl) ?_
    refine e_iload_n rfl rfl (xnm_no rfl) ?_
    obtain ⟨w2, hw3, h⟩ := xbd_some h
    refine e_cIS (hc := hw3) (rest := []) rfl rfl rfl rfl rfl rfl rfl rfl (xnm_no rfl) ?_
    refine e_if_ne (t := 35) rfl rfl (xnm_no rfl) (xnm_no rfl) h (fun h => ?_) (fun h => ?_)
    · refine e_aload_n rfl rfl rfl (xnm_no rfl) ?_
      refine e_getR (r := 167) rfl rfl rfl rfl rfl (xnm_no rfl) ?_
      refine e_iload_n rfl rfl (xnm_no rfl) ?_
      refine e_iload_n rfl rfl (xnm_no rfl) ?_
      obtain ⟨g4, h⟩ := xgd_some h
      refine e_iast rfl g4 (xnm_no rfl) ?_
      replace h := xlt_b h
      refine e_aload_n rfl rfl rfl (xnm_no rfl) ?_
      refine e_getR (r := 168) rfl rfl rfl rfl rfl (xnm_no rfl) ?_
      refine e_iload_n rfl rfl (xnm_no rfl) ?_
      refine e_iload_n rfl rfl (xnm_no rfl) ?_
      refine e_iast rfl g4 (xnm_no rfl) ?_
      replace h := xlt_b h
      refine e_iinc (y := 1) rfl rfl rfl (by decide) (xnm_no rfl) ?_
      refine e_iinc (y := 1) rfl rfl rfl (by decide) (xnm_no rfl) ?_
      refine e_goto (t := 14) rfl rfl rfl ?_
      exact xlfI h
    · refine e_goto (t := 52) rfl rfl (xnm_no rfl) ?_
      refine e_iinc (y := 1) rfl rfl rfl (by decide) (xnm_no rfl) ?_
      refine e_goto (t := 14) rfl rfl rfl ?_
      exact xlfI h
set_option maxRecDepth 4000 in
theorem bX12_ways_144_102_i (v1 : Int32) (v2 : Int32) (v3 : Int32) (m : xmm) {z : Int32 × xmm} (h : (if v3 < 0 then some (v2, m) else xgd (xinb 28 v3) (if (m.1 169 (v3).toNatClampNeg) < 0 then bX12_ways_144_120 v1 v2 v3 m else (fX12_takesOff_144 v3 m).bind fun (w2 : xmm) => bX12_ways_144_120 v1 v2 v3 w2)) = some z) : bX12_ways_144_102 v1 v2 v3 m = some z := by
  refine xstI ?_
  show xT 214 2 102 [(0, .ref 144), (1, .int v1), (2, .int v2), (3, .int v3)] [] m (some (.int z.1), z.2)
  refine e_iload_n rfl rfl (xnm_no rfl) ?_
  refine e_if_lt (t := 188) rfl rfl (xnm_no rfl) (xnm_no rfl) h (fun h => ?_) (fun h => ?_)
  · refine e_iload_n rfl rfl (xnm_no rfl) ?_
    cases h
    exact e_retI rfl rfl
  · refine e_aload_n rfl rfl rfl (xnm_no rfl) ?_
    refine e_getR (r := 169) rfl rfl rfl rfl rfl (xnm_no rfl) ?_
    refine e_iload_n rfl rfl (xnm_no rfl) ?_
    obtain ⟨g1, h⟩ := xgd_some h
    refine e_iald rfl g1 (xnm_no rfl) ?_
    refine e_if_lt (t := 120) rfl rfl rfl (xnm_no rfl) h (fun h => ?_) (fun h => ?_)
    · exact xlfI h
    · refine e_aload_n rfl rfl rfl (xnm_no rfl) ?_
      refine e_iload_n rfl rfl (xnm_no rfl) ?_
      obtain ⟨w2, hw3, h⟩ := xbd_some h
      refine e_cVV (hc := hw3) (rest := []) rfl rfl rfl rfl rfl rfl rfl rfl rfl ?_
      exact xlfI h
set_option maxRecDepth 4000 in
theorem bX12_ways_144_120_i (v1 : Int32) (v2 : Int32) (v3 : Int32) (m : xmm) {z : Int32 × xmm} (h : (xgd (xinb 28 v3) (xlt (xwi m 169 (v3).toNatClampNeg ((m.1 169 (v3).toNatClampNeg) + (1 : Int32))) fun (m2 : xmm) => if (m2.1 169 (v3).toNatClampNeg) ≤ (1 : Int32) then (fX12_putsOn_144 v3 m2).bind fun (w3 : xmm) => (fX12_agrees_144 v3 w3).bind fun (w5 : Int32 × xmm) => if w5.1 = 0 then bX12_ways_144_102 v1 v2 v3 w5.2 else if v3 = (v1 - (1 : Int32)) then bX12_ways_144_102 v1 (v2 + (1 : Int32)) v3 w5.2 else xgd (xinb 28 (v3 + (1 : Int32))) (xlt (xwi w5.2 169 ((v3 + (1 : Int32))).toNatClampNeg (-1 : Int32)) fun (m8 : xmm) => bX12_ways_144_102 v1 v2 (v3 + (1 : Int32)) m8) else bX12_ways_144_102 v1 v2 (v3 + (-1 : Int32)) m2)) = some z) : bX12_ways_144_120 v1 v2 v3 m = some z := by
  refine xstI ?_
  show xT 214 2 120 [(0, .ref 144), (1, .int v1), (2, .int v2), (3, .int v3)] [] m (some (.int z.1), z.2)
  refine e_aload_n rfl rfl rfl (xnm_no rfl) ?_
  refine e_getR (r := 169) rfl rfl rfl rfl rfl (xnm_no rfl) ?_
  refine e_iload_n rfl rfl (xnm_no rfl) ?_
  refine e_dup2 rfl rfl rfl (xnm_no rfl) ?_
  obtain ⟨g1, h⟩ := xgd_some h
  refine e_iald rfl g1 (xnm_no rfl) ?_
  refine e_iconst (x := 1) rfl (by decide) (xnm_no rfl) ?_
  refine e_iadd rfl (xnm_no rfl) ?_
  refine e_iast rfl g1 (xnm_no rfl) ?_
  replace h := xlt_b h
  refine e_aload_n rfl rfl rfl (xnm_no rfl) ?_
  refine e_getR (r := 169) rfl rfl rfl rfl rfl (xnm_no rfl) ?_
  refine e_iload_n rfl rfl (xnm_no rfl) ?_
  refine e_iald rfl g1 (xnm_no rfl) ?_
  refine e_iconst (x := 1) rfl (by decide) (xnm_no rfl) ?_
  refine e_icmp_le (t := 146) rfl rfl (xnm_no rfl) (xnm_no rfl) h (fun h => ?_) (fun h => ?_)
  · refine e_aload_n rfl rfl rfl (xnm_no rfl) ?_
    refine e_iload_n rfl rfl (xnm_no rfl) ?_
    obtain ⟨w3, hw4, h⟩ := xbd_some h
    refine e_cVV (hc := hw4) (rest := []) rfl rfl rfl rfl rfl rfl rfl rfl (xnm_no rfl) ?_
    refine e_aload_n rfl rfl rfl (xnm_no rfl) ?_
    refine e_iload_n rfl rfl (xnm_no rfl) ?_
    obtain ⟨w5, hw6, h⟩ := xbd_some h
    refine e_cIV (hc := hw6) (rest := []) rfl rfl rfl rfl rfl rfl rfl rfl (xnm_no rfl) ?_
    refine e_if_ne (t := 162) rfl rfl (xnm_no rfl) (xnm_no rfl) h (fun h => ?_) (fun h => ?_)
    · refine e_iload_n rfl rfl (xnm_no rfl) ?_
      refine e_iload_n rfl rfl (xnm_no rfl) ?_
      refine e_iconst (x := 1) rfl (by decide) (xnm_no rfl) ?_
      refine e_isub rfl (xnm_no rfl) ?_
      refine e_icmp_ne (t := 175) rfl rfl (xnm_no rfl) (xnm_no rfl) h (fun h => ?_) (fun h => ?_)
      · refine e_iinc (y := 1) rfl rfl rfl (by decide) (xnm_no rfl) ?_
        refine e_aload_n rfl rfl rfl (xnm_no rfl) ?_
        refine e_getR (r := 169) rfl rfl rfl rfl rfl (xnm_no rfl) ?_
        refine e_iload_n rfl rfl (xnm_no rfl) ?_
        refine e_iconst (x := -1) rfl (by decide) (xnm_no rfl) ?_
        obtain ⟨g7, h⟩ := xgd_some h
        refine e_iast rfl g7 (xnm_no rfl) ?_
        replace h := xlt_b h
        refine e_goto (t := 102) rfl rfl rfl ?_
        exact xlfI h
      · refine e_iinc (y := 1) rfl rfl rfl (by decide) (xnm_no rfl) ?_
        refine e_goto (t := 102) rfl rfl rfl ?_
        exact xlfI h
    · refine e_goto (t := 102) rfl rfl rfl ?_
      exact xlfI h
  · refine e_iinc (y := -1) rfl rfl rfl (by decide) (xnm_no rfl) ?_
    refine e_goto (t := 102) rfl rfl rfl ?_
    exact xlfI h
set_option maxRecDepth 4000 in
theorem fX12_isCrossed_144_i (m : xmm) {z : Int32 × xmm} (h : ((fX12_laysOther_144 m).bind fun (w1 : xmm) => (fX12_isOrdered_144 152 w1).bind fun (w3 : Int32 × xmm) => if w3.1 = 0 then some ((0 : Int32), w3.2) else (fX12_isOrdered_144 159 w3.2).bind fun (w5 : Int32 × xmm) => if w5.1 = 0 then some ((0 : Int32), w5.2) else some ((1 : Int32), w5.2)) = some z) : fX12_isCrossed_144 m = some z := by
  refine xstI ?_
  show xT 220 6 0 [(0, .ref 144)] [] m (some (.int z.1), z.2)
  refine e_aload_n rfl rfl rfl (xnm_no rfl) ?_
  obtain ⟨w1, hw2, h⟩ := xbd_some h
  refine e_cVV (hc := hw2) (rest := []) rfl rfl rfl rfl rfl rfl rfl rfl (xnm_no rfl) ?_
  refine e_aload_n rfl rfl rfl (xnm_no rfl) ?_
  refine e_aload_n rfl rfl rfl (xnm_no rfl) ?_
  refine e_getR (r := 152) rfl rfl rfl rfl rfl (xnm_no rfl) ?_
  obtain ⟨w3, hw4, h⟩ := xbd_some h
  refine e_cIV (hc := hw4) (rest := []) rfl rfl rfl rfl rfl rfl rfl rfl (xnm_no rfl) ?_
  refine e_if_eq (t := 30) rfl rfl (xnm_no rfl) (xnm_no rfl) h (fun h => ?_) (fun h => ?_)
  · refine e_iconst (x := 0) rfl (by decide) (xnm_no rfl) ?_
    cases h
    exact e_retI rfl (by decide)
  · refine e_aload_n rfl rfl rfl (xnm_no rfl) ?_
    refine e_aload_n rfl rfl rfl (xnm_no rfl) ?_
    refine e_getR (r := 159) rfl rfl rfl rfl rfl (xnm_no rfl) ?_
    obtain ⟨w5, hw6, h⟩ := xbd_some h
    refine e_cIV (hc := hw6) (rest := []) rfl rfl rfl rfl rfl rfl rfl rfl (xnm_no rfl) ?_
    refine e_if_eq (t := 30) rfl rfl (xnm_no rfl) (xnm_no rfl) h (fun h => ?_) (fun h => ?_)
    · refine e_iconst (x := 0) rfl (by decide) (xnm_no rfl) ?_
      cases h
      exact e_retI rfl (by decide)
    · refine e_iconst (x := 1) rfl (by decide) (xnm_no rfl) ?_
      refine e_goto (t := 31) rfl rfl (xnm_no rfl) ?_
      cases h
      exact e_retI rfl (by decide)
set_option maxRecDepth 4000 in
theorem fX12_partMany_144_i (m : xmm) {z : Int32 × xmm} (h : (bX12_partMany_144_4 (0 : Int32) (0 : Int32) m) = some z) : fX12_partMany_144 m = some z := by
  refine xstI ?_
  show xT 223 2 0 [(0, .ref 144)] [] m (some (.int z.1), z.2)
  refine e_iconst (x := 0) rfl (by decide) (xnm_no rfl) ?_
  refine e_istore_n rfl rfl (xnm_no rfl) ?_
  refine e_iconst (x := 0) rfl (by decide) (xnm_no rfl) ?_
  refine e_istore_n rfl rfl rfl ?_
  exact xlfI h
set_option maxRecDepth 4000 in
theorem bX12_partMany_144_4_i (v1 : Int32) (v2 : Int32) (m : xmm) {z : Int32 × xmm} (h : (if (m.1 144 17) ≤ v2 then some (v1, m) else (fX12_laysFar_144 v2 m).bind fun (w1 : xmm) => bX12_partMany_144_22 v1 v2 (1 : Int32) (0 : Int32) w1) = some z) : bX12_partMany_144_4 v1 v2 m = some z := by
  refine xstI ?_
  show xT 223 2 4 [(0, .ref 144), (1, .int v1), (2, .int v2)] [] m (some (.int z.1), z.2)
  refine e_iload_n rfl rfl (xnm_no rfl) ?_
  refine e_aload_n rfl rfl rfl (xnm_no rfl) ?_
  refine e_getI rfl rfl rfl rfl (xnm_no rfl) ?_
  refine e_icmp_ge (t := 67) rfl rfl (xnm_no rfl) (xnm_no rfl) h (fun h => ?_) (fun h => ?_)
  · refine e_iload_n rfl rfl (xnm_no rfl) ?_
    cases h
    exact e_retI rfl rfl
  · refine e_aload_n rfl rfl rfl (xnm_no rfl) ?_
    refine e_iload_n rfl rfl (xnm_no rfl) ?_
    obtain ⟨w1, hw2, h⟩ := xbd_some h
    refine e_cVV (hc := hw2) (rest := []) rfl rfl rfl rfl rfl rfl rfl rfl (xnm_no rfl) ?_
    refine e_iconst (x := 1) rfl (by decide) (xnm_no rfl) ?_
    refine e_istore_n rfl rfl (xnm_no rfl) ?_
    refine e_iconst (x := 0) rfl (by decide) (xnm_no rfl) ?_
    refine e_istore rfl rfl rfl ?_
    exact xlfI h
set_option maxRecDepth 4000 in
theorem bX12_partMany_144_22_i (v1 : Int32) (v2 : Int32) (v3 : Int32) (v4 : Int32) (m : xmm) {z : Int32 × xmm} (h : (if v2 ≤ v4 then if v3 = 0 then bX12_partMany_144_4 v1 (v2 + (1 : Int32)) m else bX12_partMany_144_4 (v1 + (1 : Int32)) (v2 + (1 : Int32)) m else if v3 = 0 then bX12_partMany_144_22 v1 v2 (0 : Int32) (v4 + (1 : Int32)) m else xgd (xinb 8 v4) (if 0 ≤ (m.1 171 (v4).toNatClampNeg) then bX12_partMany_144_22 v1 v2 (0 : Int32) (v4 + (1 : Int32)) m else bX12_partMany_144_22 v1 v2 (1 : Int32) (v4 + (1 : Int32)) m)) = some z) : bX12_partMany_144_22 v1 v2 v3 v4 m = some z := by
  refine xstI ?_
  show xT 223 2 22 [(0, .ref 144), (1, .int v1), (2, .int v2), (3, .int v3), (4, .int v4)] [] m (some (.int z.1), z.2)
  refine e_iload rfl rfl (xnm_no rfl) ?_
  refine e_iload_n rfl rfl (xnm_no rfl) ?_
  refine e_icmp_ge (t := 54) rfl rfl (xnm_no rfl) (xnm_no rfl) h (fun h => ?_) (fun h => ?_)
  · refine e_iload_n rfl rfl (xnm_no rfl) ?_
    refine e_if_eq (t := 61) rfl rfl (xnm_no rfl) (xnm_no rfl) h (fun h => ?_) (fun h => ?_)
    · refine e_iinc (y := 1) rfl rfl rfl (by decide) (xnm_no rfl) ?_
      refine e_goto (t := 4) rfl rfl rfl ?_
      exact xlfI h
    · refine e_iinc (y := 1) rfl rfl rfl (by decide) (xnm_no rfl) ?_
      refine e_iinc (y := 1) rfl rfl rfl (by decide) (xnm_no rfl) ?_
      refine e_goto (t := 4) rfl rfl rfl ?_
      exact xlfI h
  · refine e_iload_n rfl rfl (xnm_no rfl) ?_
    refine e_if_eq (t := 46) rfl rfl (xnm_no rfl) (xnm_no rfl) h (fun h => ?_) (fun h => ?_)
    · refine e_iconst (x := 0) rfl (by decide) (xnm_no rfl) ?_
      refine e_istore_n rfl rfl (xnm_no rfl) ?_
      refine e_iinc (y := 1) rfl rfl rfl (by decide) (xnm_no rfl) ?_
      refine e_goto (t := 22) rfl rfl rfl ?_
      exact xlfI h
    · refine e_aload_n rfl rfl rfl (xnm_no rfl) ?_
      refine e_getR (r := 171) rfl rfl rfl rfl rfl (xnm_no rfl) ?_
      refine e_iload rfl rfl (xnm_no rfl) ?_
      obtain ⟨g1, h⟩ := xgd_some h
      refine e_iald rfl g1 (xnm_no rfl) ?_
      refine e_if_ge (t := 46) rfl rfl (xnm_no rfl) (xnm_no rfl) h (fun h => ?_) (fun h => ?_)
      · refine e_iconst (x := 0) rfl (by decide) (xnm_no rfl) ?_
        refine e_istore_n rfl rfl (xnm_no rfl) ?_
        refine e_iinc (y := 1) rfl rfl rfl (by decide) (xnm_no rfl) ?_
        refine e_goto (t := 22) rfl rfl rfl ?_
        exact xlfI h
      · refine e_iconst (x := 1) rfl (by decide) (xnm_no rfl) ?_
        refine e_goto (t := 47) rfl rfl (xnm_no rfl) ?_
        refine e_istore_n rfl rfl (xnm_no rfl) ?_
        refine e_iinc (y := 1) rfl rfl rfl (by decide) (xnm_no rfl) ?_
        refine e_goto (t := 22) rfl rfl rfl ?_
        exact xlfI h
set_option maxRecDepth 4000 in
theorem fX12_network_144_i (v1 : Int32) (m : xmm) {z : Int32 × xmm} (h : (if v1 = 0 then (fX12_isOrdered_144 152 m).bind fun (w2 : Int32 × xmm) => if w2.1 = 0 then some ((0 : Int32), w2.2) else some ((1 : Int32), w2.2) else if v1 = 1 then (fX12_laysClasses_144 152 m).bind fun (w5 : xmm) => some ((w5.1 144 32), w5) else if v1 = 2 then (fX12_laysClasses_144 152 m).bind fun (w8 : xmm) => some ((w8.1 144 33), w8) else if v1 = 3 then (fX12_isOrdered_144 152 m).bind fun (w11 : Int32 × xmm) => if w11.1 = 0 then some ((0 : Int32), w11.2) else (fX12_ways_144 w11.2).bind fun (w13 : Int32 × xmm) => some (w13.1, w13.2) else if v1 = 4 then (fX12_isArrowed_144 m).bind fun (w16 : Int32 × xmm) => if w16.1 = 0 then some ((-2 : Int32), w16.2) else some ((w16.2.1 144 39), w16.2) else if v1 = 5 then (fX12_isCrossed_144 m).bind fun (w19 : Int32 × xmm) => if w19.1 = 0 then some ((0 : Int32), w19.2) else some ((1 : Int32), w19.2) else if v1 = 6 then (fX12_laysOther_144 m).bind fun (w22 : xmm) => (fX12_isOrdered_144 159 w22).bind fun (w24 : Int32 × xmm) => if w24.1 = 0 then some ((0 : Int32), w24.2) else some ((1 : Int32), w24.2) else if v1 = 7 then (fX12_partMany_144 m).bind fun (w27 : Int32 × xmm) => some (w27.1, w27.2) else some ((-1 : Int32), m)) = some z) : fX12_network_144 v1 m = some z := by
  refine xstI ?_
  show xT 224 7 0 [(0, .ref 144), (1, .int v1)] [] m (some (.int z.1), z.2)
  refine e_iload_n rfl rfl (xnm_no rfl) ?_
  by_cases c1 : v1 = 0
  · rw [if_pos c1] at h
    refine e_sw (t := 48) (o := 47) rfl (by decide) (xsw_p c1) rfl (xnm_no rfl) ?_
    refine e_aload_n rfl rfl rfl (xnm_no rfl) ?_
    refine e_aload_n rfl rfl rfl (xnm_no rfl) ?_
    refine e_getR (r := 152) rfl rfl rfl rfl rfl (xnm_no rfl) ?_
    obtain ⟨w2, hw3, h⟩ := xbd_some h
    refine e_cIV (hc := hw3) (rest := []) rfl rfl rfl rfl rfl rfl rfl rfl (xnm_no rfl) ?_
    refine e_if_eq (t := 63) rfl rfl (xnm_no rfl) (xnm_no rfl) h (fun h => ?_) (fun h => ?_)
    · refine e_iconst (x := 0) rfl (by decide) (xnm_no rfl) ?_
      cases h
      exact e_retI rfl rfl
    · refine e_iconst (x := 1) rfl (by decide) (xnm_no rfl) ?_
      refine e_goto (t := 64) rfl rfl (xnm_no rfl) ?_
      cases h
      exact e_retI rfl rfl
  · rw [if_neg c1] at h
    by_cases c4 : v1 = 1
    · rw [if_pos c4] at h
      refine e_sw (t := 65) (o := 64) rfl (by decide) (xsw_n c1 (xsw_p c4)) rfl (xnm_no rfl) ?_
      refine e_aload_n rfl rfl rfl (xnm_no rfl) ?_
      refine e_aload_n rfl rfl rfl (xnm_no rfl) ?_
      refine e_getR (r := 152) rfl rfl rfl rfl rfl (xnm_no rfl) ?_
      obtain ⟨w5, hw6, h⟩ := xbd_some h
      refine e_cVV (hc := hw6) (rest := []) rfl rfl rfl rfl rfl rfl rfl rfl (xnm_no rfl) ?_
      refine e_aload_n rfl rfl rfl (xnm_no rfl) ?_
      refine e_getI rfl rfl rfl rfl (xnm_no rfl) ?_
      cases h
      exact e_retI rfl rfl
    · rw [if_neg c4] at h
      by_cases c7 : v1 = 2
      · rw [if_pos c7] at h
        refine e_sw (t := 78) (o := 77) rfl (by decide) (xsw_n c1 (xsw_n c4 (xsw_p c7))) rfl (xnm_no rfl) ?_
        refine e_aload_n rfl rfl rfl (xnm_no rfl) ?_
        refine e_aload_n rfl rfl rfl (xnm_no rfl) ?_
        refine e_getR (r := 152) rfl rfl rfl rfl rfl (xnm_no rfl) ?_
        obtain ⟨w8, hw9, h⟩ := xbd_some h
        refine e_cVV (hc := hw9) (rest := []) rfl rfl rfl rfl rfl rfl rfl rfl (xnm_no rfl) ?_
        refine e_aload_n rfl rfl rfl (xnm_no rfl) ?_
        refine e_getI rfl rfl rfl rfl (xnm_no rfl) ?_
        cases h
        exact e_retI rfl rfl
      · rw [if_neg c7] at h
        by_cases c10 : v1 = 3
        · rw [if_pos c10] at h
          refine e_sw (t := 91) (o := 90) rfl (by decide) (xsw_n c1 (xsw_n c4 (xsw_n c7 (xsw_p c10)))) rfl (xnm_no rfl) ?_
          refine e_aload_n rfl rfl rfl (xnm_no rfl) ?_
          refine e_aload_n rfl rfl rfl (xnm_no rfl) ?_
          refine e_getR (r := 152) rfl rfl rfl rfl rfl (xnm_no rfl) ?_
          obtain ⟨w11, hw12, h⟩ := xbd_some h
          refine e_cIV (hc := hw12) (rest := []) rfl rfl rfl rfl rfl rfl rfl rfl (xnm_no rfl) ?_
          refine e_if_eq (t := 109) rfl rfl (xnm_no rfl) (xnm_no rfl) h (fun h => ?_) (fun h => ?_)
          · refine e_iconst (x := 0) rfl (by decide) (xnm_no rfl) ?_
            cases h
            exact e_retI rfl rfl
          · refine e_aload_n rfl rfl rfl (xnm_no rfl) ?_
            obtain ⟨w13, hw14, h⟩ := xbd_some h
            refine e_cIV (hc := hw14) (rest := []) rfl rfl rfl rfl rfl rfl rfl rfl (xnm_no rfl) ?_
            refine e_goto (t := 110) rfl rfl (xnm_no rfl) ?_
            cases h
            exact e_retI rfl rfl
        · rw [if_neg c10] at h
          by_cases c15 : v1 = 4
          · rw [if_pos c15] at h
            refine e_sw (t := 111) (o := 110) rfl (by decide) (xsw_n c1 (xsw_n c4 (xsw_n c7 (xsw_n c10 (xsw_p c15))))) rfl (xnm_no rfl) ?_
            refine e_aload_n rfl rfl rfl (xnm_no rfl) ?_
            obtain ⟨w16, hw17, h⟩ := xbd_some h
            refine e_cIV (hc := hw17) (rest := []) rfl rfl rfl rfl rfl rfl rfl rfl (xnm_no rfl) ?_
            refine e_if_eq (t := 125) rfl rfl (xnm_no rfl) (xnm_no rfl) h (fun h => ?_) (fun h => ?_)
            · refine e_bipush (x := -2) rfl (by decide) (xnm_no rfl) ?_
              cases h
              exact e_retI rfl rfl
            · refine e_aload_n rfl rfl rfl (xnm_no rfl) ?_
              refine e_getI rfl rfl rfl rfl (xnm_no rfl) ?_
              refine e_goto (t := 127) rfl rfl (xnm_no rfl) ?_
              cases h
              exact e_retI rfl rfl
          · rw [if_neg c15] at h
            by_cases c18 : v1 = 5
            · rw [if_pos c18] at h
              refine e_sw (t := 128) (o := 127) rfl (by decide) (xsw_n c1 (xsw_n c4 (xsw_n c7 (xsw_n c10 (xsw_n c15 (xsw_p c18)))))) rfl (xnm_no rfl) ?_
              refine e_aload_n rfl rfl rfl (xnm_no rfl) ?_
              obtain ⟨w19, hw20, h⟩ := xbd_some h
              refine e_cIV (hc := hw20) (rest := []) rfl rfl rfl rfl rfl rfl rfl rfl (xnm_no rfl) ?_
              refine e_if_eq (t := 139) rfl rfl (xnm_no rfl) (xnm_no rfl) h (fun h => ?_) (fun h => ?_)
              · refine e_iconst (x := 0) rfl (by decide) (xnm_no rfl) ?_
                cases h
                exact e_retI rfl rfl
              · refine e_iconst (x := 1) rfl (by decide) (xnm_no rfl) ?_
                refine e_goto (t := 140) rfl rfl (xnm_no rfl) ?_
                cases h
                exact e_retI rfl rfl
            · rw [if_neg c18] at h
              by_cases c21 : v1 = 6
              · rw [if_pos c21] at h
                refine e_sw (t := 141) (o := 140) rfl (by decide) (xsw_n c1 (xsw_n c4 (xsw_n c7 (xsw_n c10 (xsw_n c15 (xsw_n c18 (xsw_p c21))))))) rfl (xnm_no rfl) ?_
                refine e_aload_n rfl rfl rfl (xnm_no rfl) ?_
                obtain ⟨w22, hw23, h⟩ := xbd_some h
                refine e_cVV (hc := hw23) (rest := []) rfl rfl rfl rfl rfl rfl rfl rfl (xnm_no rfl) ?_
                refine e_aload_n rfl rfl rfl (xnm_no rfl) ?_
                refine e_aload_n rfl rfl rfl (xnm_no rfl) ?_
                refine e_getR (r := 159) rfl rfl rfl rfl rfl (xnm_no rfl) ?_
                obtain ⟨w24, hw25, h⟩ := xbd_some h
                refine e_cIV (hc := hw25) (rest := []) rfl rfl rfl rfl rfl rfl rfl rfl (xnm_no rfl) ?_
                refine e_if_eq (t := 160) rfl rfl (xnm_no rfl) (xnm_no rfl) h (fun h => ?_) (fun h => ?_)
                · refine e_iconst (x := 0) rfl (by decide) (xnm_no rfl) ?_
                  cases h
                  exact e_retI rfl rfl
                · refine e_iconst (x := 1) rfl (by decide) (xnm_no rfl) ?_
                  refine e_goto (t := 161) rfl rfl (xnm_no rfl) ?_
                  cases h
                  exact e_retI rfl rfl
              · rw [if_neg c21] at h
                by_cases c26 : v1 = 7
                · rw [if_pos c26] at h
                  refine e_sw (t := 162) (o := 161) rfl (by decide) (xsw_n c1 (xsw_n c4 (xsw_n c7 (xsw_n c10 (xsw_n c15 (xsw_n c18 (xsw_n c21 (xsw_p c26)))))))) rfl (xnm_no rfl) ?_
                  refine e_aload_n rfl rfl rfl (xnm_no rfl) ?_
                  obtain ⟨w27, hw28, h⟩ := xbd_some h
                  refine e_cIV (hc := hw28) (rest := []) rfl rfl rfl rfl rfl rfl rfl rfl (xnm_no rfl) ?_
                  cases h
                  exact e_retI rfl rfl
                · rw [if_neg c26] at h
                  refine e_sw (t := 167) (o := 166) rfl (by decide) (xsw_n c1 (xsw_n c4 (xsw_n c7 (xsw_n c10 (xsw_n c15 (xsw_n c18 (xsw_n c21 (xsw_n c26 xsw_d)))))))) rfl (xnm_no rfl) ?_
                  refine e_iconst (x := -1) rfl (by decide) (xnm_no rfl) ?_
                  cases h
                  exact e_retI rfl rfl
set_option maxRecDepth 4000 in
theorem fX5_isUnder_123_i (v1 : Int32) (v2 : Int32) (m : xmm) {z : Int32 × xmm} (h : (xgd (xinb 8 v1) ((fX11_contains (m.1 124 (v1).toNatClampNeg) v2 m).bind fun (w2 : Int32 × xmm) => xgd (xz01 w2.1) (some (w2.1, w2.2)))) = some z) : fX5_isUnder_123 v1 v2 m = some z := by
  refine xstI ?_
  show xT 47 1 0 [(0, .ref 123), (1, .int v1), (2, .int v2)] [] m (some (.int z.1), z.2)
  refine e_aload_n rfl rfl rfl (xnm_no rfl) ?_
  refine e_getR (r := 124) rfl rfl rfl rfl rfl (xnm_no rfl) ?_
  refine e_iload_n rfl rfl (xnm_no rfl) ?_
  obtain ⟨g1, h⟩ := xgd_some h
  refine e_iald rfl g1 (xnm_no rfl) ?_
  refine e_iload_n rfl rfl (xnm_no rfl) ?_
  obtain ⟨w2, hw3, h⟩ := xbd_some h
  refine e_cIS (hc := hw3) (rest := []) rfl rfl rfl rfl rfl rfl rfl rfl (xnm_no rfl) ?_
  obtain ⟨g4, h⟩ := xgd_some h
  cases h
  exact e_retI rfl g4
set_option maxRecDepth 4000 in
theorem fX11_under_0_i (v1 : Int32) (v2 : Int32) (m : xmm) {z : Int32 × xmm} (h : ((fX3_hasPost 10 v1 m).bind fun (w1 : Int32 × xmm) => if w1.1 = 0 then some ((-1 : Int32), w1.2) else (fX3_hasPost 10 v2 w1.2).bind fun (w3 : Int32 × xmm) => if w3.1 = 0 then some ((-1 : Int32), w3.2) else (fX11_study_0 w3.2).bind fun (w5 : xmm) => (fX1_isOrdered_97 w5).bind fun (w7 : Int32 × xmm) => if w7.1 = 0 then some ((-2 : Int32), w7.2) else (fX5_isUnder_123 v1 v2 w7.2).bind fun (w9 : Int32 × xmm) => (fX11_bit w9.1 w9.2).bind fun (w11 : Int32 × xmm) => some (w11.1, w11.2)) = some z) : fX11_under_0 v1 v2 m = some z := by
  refine xstI ?_
  show xT 132 6 0 [(0, .ref 0), (1, .int v1), (2, .int v2)] [] m (some (.int z.1), z.2)
  refine e_aload_n rfl rfl rfl (xnm_no rfl) ?_
  refine e_getR (r := 10) rfl rfl rfl rfl rfl (xnm_no rfl) ?_
  refine e_iload_n rfl rfl (xnm_no rfl) ?_
  obtain ⟨w1, hw2, h⟩ := xbd_some h
  refine e_cIV (hc := hw2) (rest := []) rfl rfl rfl rfl rfl rfl rfl rfl (xnm_no rfl) ?_
  refine e_if_eq (t := 22) rfl rfl (xnm_no rfl) (xnm_no rfl) h (fun h => ?_) (fun h => ?_)
  · refine e_iconst (x := -1) rfl (by decide) (xnm_no rfl) ?_
    cases h
    exact e_retI rfl rfl
  · refine e_aload_n rfl rfl rfl (xnm_no rfl) ?_
    refine e_getR (r := 10) rfl rfl rfl rfl rfl (xnm_no rfl) ?_
    refine e_iload_n rfl rfl (xnm_no rfl) ?_
    obtain ⟨w3, hw4, h⟩ := xbd_some h
    refine e_cIV (hc := hw4) (rest := []) rfl rfl rfl rfl rfl rfl rfl rfl (xnm_no rfl) ?_
    refine e_if_ne (t := 24) rfl rfl (xnm_no rfl) (xnm_no rfl) h (fun h => ?_) (fun h => ?_)
    · refine e_aload_n rfl rfl rfl (xnm_no rfl) ?_
      obtain ⟨w5, hw6, h⟩ := xbd_some h
      refine e_cVV (hc := hw6) (rest := []) rfl rfl rfl rfl rfl rfl rfl rfl (xnm_no rfl) ?_
      refine e_aload_n rfl rfl rfl (xnm_no rfl) ?_
      refine e_getR (r := 97) rfl rfl rfl rfl rfl (xnm_no rfl) ?_
      obtain ⟨w7, hw8, h⟩ := xbd_some h
      refine e_cIV (hc := hw8) (rest := []) rfl rfl rfl rfl rfl rfl rfl rfl (xnm_no rfl) ?_
      refine e_if_ne (t := 41) rfl rfl (xnm_no rfl) (xnm_no rfl) h (fun h => ?_) (fun h => ?_)
      · refine e_aload_n rfl rfl rfl (xnm_no rfl) ?_
        refine e_getR (r := 123) rfl rfl rfl rfl rfl (xnm_no rfl) ?_
        refine e_iload_n rfl rfl (xnm_no rfl) ?_
        refine e_iload_n rfl rfl (xnm_no rfl) ?_
        obtain ⟨w9, hw10, h⟩ := xbd_some h
        refine e_cIV (hc := hw10) (rest := []) rfl rfl rfl rfl rfl rfl rfl rfl (xnm_no rfl) ?_
        obtain ⟨w11, hw12, h⟩ := xbd_some h
        refine e_cIS (hc := hw12) (rest := []) rfl rfl rfl rfl rfl rfl rfl rfl (xnm_no rfl) ?_
        cases h
        exact e_retI rfl rfl
      · refine e_bipush (x := -2) rfl (by decide) (xnm_no rfl) ?_
        cases h
        exact e_retI rfl rfl
    · refine e_iconst (x := -1) rfl (by decide) (xnm_no rfl) ?_
      cases h
      exact e_retI rfl rfl
set_option maxRecDepth 4000 in
theorem fX12_under_144_i (v1 : Int32) (v2 : Int32) (m : xmm) {z : Int32 × xmm} (h : ((fX12_isPost_144 v1 m).bind fun (w1 : Int32 × xmm) => if w1.1 = 0 then some ((-1 : Int32), w1.2) else (fX12_isPost_144 v2 w1.2).bind fun (w3 : Int32 × xmm) => if w3.1 = 0 then some ((-1 : Int32), w3.2) else (fX12_isArrowed_144 w3.2).bind fun (w5 : Int32 × xmm) => if w5.1 = 0 then some ((-2 : Int32), w5.2) else xgd (xinb 8 v1) ((fX12_has (w5.2.1 164 (v1).toNatClampNeg) v2 w5.2).bind fun (w8 : Int32 × xmm) => if w8.1 = 0 then some ((0 : Int32), w8.2) else some ((1 : Int32), w8.2))) = some z) : fX12_under_144 v1 v2 m = some z := by
  refine xstI ?_
  show xT 213 7 0 [(0, .ref 144), (1, .int v1), (2, .int v2)] [] m (some (.int z.1), z.2)
  refine e_aload_n rfl rfl rfl (xnm_no rfl) ?_
  refine e_iload_n rfl rfl (xnm_no rfl) ?_
  obtain ⟨w1, hw2, h⟩ := xbd_some h
  refine e_cIV (hc := hw2) (rest := []) rfl rfl rfl rfl rfl rfl rfl rfl (xnm_no rfl) ?_
  refine e_if_eq (t := 16) rfl rfl (xnm_no rfl) (xnm_no rfl) h (fun h => ?_) (fun h => ?_)
  · refine e_iconst (x := -1) rfl (by decide) (xnm_no rfl) ?_
    cases h
    exact e_retI rfl rfl
  · refine e_aload_n rfl rfl rfl (xnm_no rfl) ?_
    refine e_iload_n rfl rfl (xnm_no rfl) ?_
    obtain ⟨w3, hw4, h⟩ := xbd_some h
    refine e_cIV (hc := hw4) (rest := []) rfl rfl rfl rfl rfl rfl rfl rfl (xnm_no rfl) ?_
    refine e_if_ne (t := 18) rfl rfl (xnm_no rfl) (xnm_no rfl) h (fun h => ?_) (fun h => ?_)
    · refine e_aload_n rfl rfl rfl (xnm_no rfl) ?_
      obtain ⟨w5, hw6, h⟩ := xbd_some h
      refine e_cIV (hc := hw6) (rest := []) rfl rfl rfl rfl rfl rfl rfl rfl (xnm_no rfl) ?_
      refine e_if_ne (t := 28) rfl rfl (xnm_no rfl) (xnm_no rfl) h (fun h => ?_) (fun h => ?_)
      · refine e_aload_n rfl rfl rfl (xnm_no rfl) ?_
        refine e_getR (r := 164) rfl rfl rfl rfl rfl (xnm_no rfl) ?_
        refine e_iload_n rfl rfl (xnm_no rfl) ?_
        obtain ⟨g7, h⟩ := xgd_some h
        refine e_iald rfl g7 (xnm_no rfl) ?_
        refine e_iload_n rfl rfl (xnm_no rfl) ?_
        obtain ⟨w8, hw9, h⟩ := xbd_some h
        refine e_cIS (hc := hw9) (rest := []) rfl rfl rfl rfl rfl rfl rfl rfl (xnm_no rfl) ?_
        refine e_if_eq (t := 45) rfl rfl (xnm_no rfl) (xnm_no rfl) h (fun h => ?_) (fun h => ?_)
        · refine e_iconst (x := 0) rfl (by decide) (xnm_no rfl) ?_
          cases h
          exact e_retI rfl rfl
        · refine e_iconst (x := 1) rfl (by decide) (xnm_no rfl) ?_
          refine e_goto (t := 46) rfl rfl (xnm_no rfl) ?_
          cases h
          exact e_retI rfl rfl
      · refine e_bipush (x := -2) rfl (by decide) (xnm_no rfl) ?_
        cases h
        exact e_retI rfl rfl
    · refine e_iconst (x := -1) rfl (by decide) (xnm_no rfl) ?_
      cases h
      exact e_retI rfl rfl
set_option maxRecDepth 4000 in
theorem fX5_levelOf_123_i (v1 : Int32) (m : xmm) {z : Int32 × xmm} (h : (xgd (xinb 8 v1) (some ((m.1 126 (v1).toNatClampNeg), m))) = some z) : fX5_levelOf_123 v1 m = some z := by
  refine xstI ?_
  show xT 48 0 0 [(0, .ref 123), (1, .int v1)] [] m (some (.int z.1), z.2)
  refine e_aload_n rfl rfl rfl (xnm_no rfl) ?_
  refine e_getR (r := 126) rfl rfl rfl rfl rfl (xnm_no rfl) ?_
  refine e_iload_n rfl rfl (xnm_no rfl) ?_
  obtain ⟨g1, h⟩ := xgd_some h
  refine e_iald rfl g1 (xnm_no rfl) ?_
  cases h
  exact e_retI rfl rfl
set_option maxRecDepth 4000 in
theorem fX5_belowOf_123_i (v1 : Int32) (m : xmm) {z : Int32 × xmm} (h : (xgd (xinb 8 v1) (some ((m.1 125 (v1).toNatClampNeg), m))) = some z) : fX5_belowOf_123 v1 m = some z := by
  refine xstI ?_
  show xT 49 0 0 [(0, .ref 123), (1, .int v1)] [] m (some (.int z.1), z.2)
  refine e_aload_n rfl rfl rfl (xnm_no rfl) ?_
  refine e_getR (r := 125) rfl rfl rfl rfl rfl (xnm_no rfl) ?_
  refine e_iload_n rfl rfl (xnm_no rfl) ?_
  obtain ⟨g1, h⟩ := xgd_some h
  refine e_iald rfl g1 (xnm_no rfl) ?_
  cases h
  exact e_retI rfl rfl
set_option maxRecDepth 4000 in
theorem fX5_aboveOf_123_i (v1 : Int32) (m : xmm) {z : Int32 × xmm} (h : (xgd (xinb 8 v1) (some ((m.1 124 (v1).toNatClampNeg), m))) = some z) : fX5_aboveOf_123 v1 m = some z := by
  refine xstI ?_
  show xT 50 0 0 [(0, .ref 123), (1, .int v1)] [] m (some (.int z.1), z.2)
  refine e_aload_n rfl rfl rfl (xnm_no rfl) ?_
  refine e_getR (r := 124) rfl rfl rfl rfl rfl (xnm_no rfl) ?_
  refine e_iload_n rfl rfl (xnm_no rfl) ?_
  obtain ⟨g1, h⟩ := xgd_some h
  refine e_iald rfl g1 (xnm_no rfl) ?_
  cases h
  exact e_retI rfl rfl
set_option maxRecDepth 4000 in
theorem fX5_coveredBy_123_i (v1 : Int32) (m : xmm) {z : Int32 × xmm} (h : (bX5_coveredBy_123_4 v1 (0 : Int32) (0 : Int32) m) = some z) : fX5_coveredBy_123 v1 m = some z := by
  refine xstI ?_
  show xT 51 1 0 [(0, .ref 123), (1, .int v1)] [] m (some (.int z.1), z.2)
  refine e_iconst (x := 0) rfl (by decide) (xnm_no rfl) ?_
  refine e_istore_n rfl rfl (xnm_no rfl) ?_
  refine e_iconst (x := 0) rfl (by decide) (xnm_no rfl) ?_
  refine e_istore_n rfl rfl rfl ?_
  exact xlfI h
set_option maxRecDepth 4000 in
theorem bX5_coveredBy_123_4_i (v1 : Int32) (v2 : Int32) (v3 : Int32) (m : xmm) {z : Int32 × xmm} (h : (if (m.1 123 6) ≤ v3 then some (v2, m) else xgd (xinb 8 v1) ((fX11_contains (m.1 124 (v1).toNatClampNeg) v3 m).bind fun (w2 : Int32 × xmm) => if w2.1 = 0 then bX5_coveredBy_123_4 v1 v2 (v3 + (1 : Int32)) w2.2 else xgd (xinb 8 v3) (if ((w2.2.1 124 (v1).toNatClampNeg) &&& (w2.2.1 125 (v3).toNatClampNeg)) = 0 then bX5_coveredBy_123_4 v1 (v2 ||| ((1 : Int32) <<< (v3 &&& 31))) (v3 + (1 : Int32)) w2.2 else bX5_coveredBy_123_4 v1 v2 (v3 + (1 : Int32)) w2.2))) = some z) : bX5_coveredBy_123_4 v1 v2 v3 m = some z := by
  refine xstI ?_
  show xT 51 1 4 [(0, .ref 123), (1, .int v1), (2, .int v2), (3, .int v3)] [] m (some (.int z.1), z.2)
  refine e_iload_n rfl rfl (xnm_no rfl) ?_
  refine e_aload_n rfl rfl rfl (xnm_no rfl) ?_
  refine e_getI rfl rfl rfl rfl (xnm_no rfl) ?_
  refine e_icmp_ge (t := 53) rfl rfl (xnm_no rfl) (xnm_no rfl) h (fun h => ?_) (fun h => ?_)
  · refine e_iload_n rfl rfl (xnm_no rfl) ?_
    cases h
    exact e_retI rfl rfl
  · refine e_aload_n rfl rfl rfl (xnm_no rfl) ?_
    refine e_getR (r := 124) rfl rfl rfl rfl rfl (xnm_no rfl) ?_
    refine e_iload_n rfl rfl (xnm_no rfl) ?_
    obtain ⟨g1, h⟩ := xgd_some h
    refine e_iald rfl g1 (xnm_no rfl) ?_
    refine e_iload_n rfl rfl (xnm_no rfl) ?_
    obtain ⟨w2, hw3, h⟩ := xbd_some h
    refine e_cIS (hc := hw3) (rest := []) rfl rfl rfl rfl rfl rfl rfl rfl (xnm_no rfl) ?_
    refine e_if_eq (t := 47) rfl rfl (xnm_no rfl) (xnm_no rfl) h (fun h => ?_) (fun h => ?_)
    · refine e_iinc (y := 1) rfl rfl rfl (by decide) (xnm_no rfl) ?_
      refine e_goto (t := 4) rfl rfl rfl ?_
      exact xlfI h
    · refine e_aload_n rfl rfl rfl (xnm_no rfl) ?_
      refine e_getR (r := 124) rfl rfl rfl rfl rfl (xnm_no rfl) ?_
      refine e_iload_n rfl rfl (xnm_no rfl) ?_
      refine e_iald rfl g1 (xnm_no rfl) ?_
      refine e_aload_n rfl rfl rfl (xnm_no rfl) ?_
      refine e_getR (r := 125) rfl rfl rfl rfl rfl (xnm_no rfl) ?_
      refine e_iload_n rfl rfl (xnm_no rfl) ?_
      obtain ⟨g4, h⟩ := xgd_some h
      refine e_iald rfl g4 (xnm_no rfl) ?_
      refine e_iand rfl (xnm_no rfl) ?_
      refine e_if_ne (t := 47) rfl rfl (xnm_no rfl) (xnm_no rfl) h (fun h => ?_) (fun h => ?_)
      · refine e_iinc (y := 1) rfl rfl rfl (by decide) (xnm_no rfl) ?_
        refine e_goto (t := 4) rfl rfl rfl ?_
        exact xlfI h
      · refine e_iload_n rfl rfl (xnm_no rfl) ?_
        refine e_iconst (x := 1) rfl (by decide) (xnm_no rfl) ?_
        refine e_iload_n rfl rfl (xnm_no rfl) ?_
        refine e_ishl rfl (xnm_no rfl) ?_
        refine e_ior rfl (xnm_no rfl) ?_
        refine e_istore_n rfl rfl (xnm_no rfl) ?_
        refine e_iinc (y := 1) rfl rfl rfl (by decide) (xnm_no rfl) ?_
        refine e_goto (t := 4) rfl rfl rfl ?_
        exact xlfI h
set_option maxRecDepth 4000 in
theorem fX5_straightAt_123_i (v1 : Int32) (v2 : Int32) (m : xmm) {z : Int32 × xmm} (h : (if v1 < 0 then some ((-1 : Int32), m) else if v1 < (m.1 127 0) then bX5_straightAt_123_27 v2 v1 (0 : Int32) (-1 : Int32) (0 : Int32) m else some ((-1 : Int32), m)) = some z) : fX5_straightAt_123 v1 v2 m = some z := by
  refine xstI ?_
  show xT 55 2 0 [(0, .ref 123), (1, .int v1), (2, .int v2)] [] m (some (.int z.1), z.2)
  refine e_iload_n rfl rfl (xnm_no rfl) ?_
  refine e_if_lt (t := 14) rfl rfl (xnm_no rfl) (xnm_no rfl) h (fun h => ?_) (fun h => ?_)
  · refine e_iconst (x := -1) rfl (by decide) (xnm_no rfl) ?_
    cases h
    exact e_retI rfl rfl
  · refine e_iload_n rfl rfl (xnm_no rfl) ?_
    refine e_aload_n rfl rfl rfl (xnm_no rfl) ?_
    refine e_getR (r := 127) rfl rfl rfl rfl rfl (xnm_no rfl) ?_
    refine e_iconst (x := 0) rfl (by decide) (xnm_no rfl) ?_
    refine e_iald rfl (by decide) (xnm_no rfl) ?_
    refine e_icmp_lt (t := 16) rfl rfl (xnm_no rfl) (xnm_no rfl) h (fun h => ?_) (fun h => ?_)
    · refine e_iload_n rfl rfl (xnm_no rfl) ?_
      refine e_istore_n rfl rfl (xnm_no rfl) ?_
      refine e_iconst (x := 0) rfl (by decide) (xnm_no rfl) ?_
      refine e_istore rfl rfl (xnm_no rfl) ?_
      refine e_iconst (x := -1) rfl (by decide) (xnm_no rfl) ?_
      refine e_istore rfl rfl (xnm_no rfl) ?_
      refine e_iconst (x := 0) rfl (by decide) (xnm_no rfl) ?_
      refine e_istore rfl rfl rfl ?_
      exact xlfI h
    · refine e_iconst (x := -1) rfl (by decide) (xnm_no rfl) ?_
      cases h
      exact e_retI rfl rfl
set_option maxRecDepth 4000 in
theorem bX5_straightAt_123_27_i (v2 : Int32) (v3 : Int32) (v4 : Int32) (v5 : Int32) (v6 : Int32) (m : xmm) {z : Int32 × xmm} (h : (if v2 < v6 then some (v5, m) else if (m.1 123 6) ≤ v6 then some (v5, m) else bX5_straightAt_123_45 v2 v3 v4 v5 v6 (0 : Int32) m) = some z) : bX5_straightAt_123_27 v2 v3 v4 v5 v6 m = some z := by
  refine xstI ?_
  show xT 55 2 27 [(0, .ref 123), (2, .int v2), (3, .int v3), (4, .int v4), (5, .int v5), (6, .int v6)] [] m (some (.int z.1), z.2)
  refine e_iload rfl rfl (xnm_no rfl) ?_
  refine e_iload_n rfl rfl (xnm_no rfl) ?_
  refine e_icmp_gt (t := 124) rfl rfl (xnm_no rfl) (xnm_no rfl) h (fun h => ?_) (fun h => ?_)
  · refine e_iload rfl rfl (xnm_no rfl) ?_
    cases h
    exact e_retI rfl rfl
  · refine e_iload rfl rfl (xnm_no rfl) ?_
    refine e_aload_n rfl rfl rfl (xnm_no rfl) ?_
    refine e_getI rfl rfl rfl rfl (xnm_no rfl) ?_
    refine e_icmp_ge (t := 124) rfl rfl (xnm_no rfl) (xnm_no rfl) h (fun h => ?_) (fun h => ?_)
    · refine e_iload rfl rfl (xnm_no rfl) ?_
      cases h
      exact e_retI rfl rfl
    · refine e_iconst (x := 0) rfl (by decide) (xnm_no rfl) ?_
      refine e_istore rfl rfl rfl ?_
      exact xlfI h
set_option maxRecDepth 4000 in
theorem bX5_straightAt_123_45_i (v2 : Int32) (v3 : Int32) (v4 : Int32) (v5 : Int32) (v6 : Int32) (v7 : Int32) (m : xmm) {z : Int32 × xmm} (h : (if (m.1 123 6) ≤ v7 then bX5_straightAt_123_109 v2 v3 v4 v5 v6 m else (fX5_isNext_123 v4 v7 m).bind fun (w1 : Int32 × xmm) => if w1.1 = 0 then bX5_straightAt_123_45 v2 v3 v4 v5 v6 (v7 + (1 : Int32)) w1.2 else xgd (xinb 256 (v4 ||| ((1 : Int32) <<< (v7 &&& 31)))) (if (w1.2.1 127 ((v4 ||| ((1 : Int32) <<< (v7 &&& 31)))).toNatClampNeg) ≤ v3 then xlt (v3 - (w1.2.1 127 ((v4 ||| ((1 : Int32) <<< (v7 &&& 31)))).toNatClampNeg)) fun (x4 : Int32) => bX5_straightAt_123_45 v2 x4 v4 v7 v6 (v7 + (1 : Int32)) w1.2 else bX5_straightAt_123_109 v2 v3 v4 v7 v6 w1.2)) = some z) : bX5_straightAt_123_45 v2 v3 v4 v5 v6 v7 m = some z := by
  refine xstI ?_
  show xT 55 2 45 [(0, .ref 123), (2, .int v2), (3, .int v3), (4, .int v4), (5, .int v5), (6, .int v6), (7, .int v7)] [] m (some (.int z.1), z.2)
  refine e_iload rfl rfl (xnm_no rfl) ?_
  refine e_aload_n rfl rfl rfl (xnm_no rfl) ?_
  refine e_getI rfl rfl rfl rfl (xnm_no rfl) ?_
  refine e_icmp_ge (t := 109) rfl rfl rfl (xnm_no rfl) h (fun h => ?_) (fun h => ?_)
  · exact xlfI h
  · refine e_aload_n rfl rfl rfl (xnm_no rfl) ?_
    refine e_iload rfl rfl (xnm_no rfl) ?_
    refine e_iload rfl rfl (xnm_no rfl) ?_
    obtain ⟨w1, hw2, h⟩ := xbd_some h
    refine e_cIV (hc := hw2) (rest := []) rfl rfl rfl rfl rfl rfl rfl rfl (xnm_no rfl) ?_
    refine e_if_eq (t := 103) rfl rfl (xnm_no rfl) (xnm_no rfl) h (fun h => ?_) (fun h => ?_)
    · refine e_iinc (y := 1) rfl rfl rfl (by decide) (xnm_no rfl) ?_
      refine e_goto (t := 45) rfl rfl rfl ?_
      exact xlfI h
    · refine e_iload rfl rfl (xnm_no rfl) ?_
      refine e_istore rfl rfl (xnm_no rfl) ?_
      refine e_iload_n rfl rfl (xnm_no rfl) ?_
      refine e_aload_n rfl rfl rfl (xnm_no rfl) ?_
      refine e_getR (r := 127) rfl rfl rfl rfl rfl (xnm_no rfl) ?_
      refine e_iload rfl rfl (xnm_no rfl) ?_
      refine e_iconst (x := 1) rfl (by decide) (xnm_no rfl) ?_
      refine e_iload rfl rfl (xnm_no rfl) ?_
      refine e_ishl rfl (xnm_no rfl) ?_
      refine e_ior rfl (xnm_no rfl) ?_
      obtain ⟨g3, h⟩ := xgd_some h
      refine e_iald rfl g3 (xnm_no rfl) ?_
      refine e_icmp_ge (t := 88) rfl rfl (xnm_no rfl) (xnm_no rfl) h (fun h => ?_) (fun h => ?_)
      · refine e_iload_n rfl rfl (xnm_no rfl) ?_
        refine e_aload_n rfl rfl rfl (xnm_no rfl) ?_
        refine e_getR (r := 127) rfl rfl rfl rfl rfl (xnm_no rfl) ?_
        refine e_iload rfl rfl (xnm_no rfl) ?_
        refine e_iconst (x := 1) rfl (by decide) (xnm_no rfl) ?_
        refine e_iload rfl rfl (xnm_no rfl) ?_
        refine e_ishl rfl (xnm_no rfl) ?_
        refine e_ior rfl (xnm_no rfl) ?_
        refine e_iald rfl g3 (xnm_no rfl) ?_
        refine e_isub rfl (xnm_no rfl) ?_
        replace h := xlt_b h
        refine e_istore_n rfl rfl (xnm_no rfl) ?_
        refine e_iinc (y := 1) rfl rfl rfl (by decide) (xnm_no rfl) ?_
        refine e_goto (t := 45) rfl rfl rfl ?_
        exact xlfI h
      · refine e_goto (t := 109) rfl rfl rfl ?_
        exact xlfI h
set_option maxRecDepth 4000 in
theorem bX5_straightAt_123_109_i (v2 : Int32) (v3 : Int32) (v4 : Int32) (v5 : Int32) (v6 : Int32) (m : xmm) {z : Int32 × xmm} (h : (bX5_straightAt_123_27 v2 v3 (v4 ||| ((1 : Int32) <<< (v5 &&& 31))) v5 (v6 + (1 : Int32)) m) = some z) : bX5_straightAt_123_109 v2 v3 v4 v5 v6 m = some z := by
  refine xstI ?_
  show xT 55 2 109 [(0, .ref 123), (2, .int v2), (3, .int v3), (4, .int v4), (5, .int v5), (6, .int v6)] [] m (some (.int z.1), z.2)
  refine e_iload rfl rfl (xnm_no rfl) ?_
  refine e_iconst (x := 1) rfl (by decide) (xnm_no rfl) ?_
  refine e_iload rfl rfl (xnm_no rfl) ?_
  refine e_ishl rfl (xnm_no rfl) ?_
  refine e_ior rfl (xnm_no rfl) ?_
  refine e_istore rfl rfl (xnm_no rfl) ?_
  refine e_iinc (y := 1) rfl rfl rfl (by decide) (xnm_no rfl) ?_
  refine e_goto (t := 27) rfl rfl rfl ?_
  exact xlfI h
set_option maxRecDepth 4000 in
theorem fX5_firstPlaceOf_123_i (v1 : Int32) (m : xmm) {z : Int32 × xmm} (h : (bX5_firstPlaceOf_123_2 v1 (0 : Int32) m) = some z) : fX5_firstPlaceOf_123 v1 m = some z := by
  refine xstI ?_
  show xT 56 3 0 [(0, .ref 123), (1, .int v1)] [] m (some (.int z.1), z.2)
  refine e_iconst (x := 0) rfl (by decide) (xnm_no rfl) ?_
  refine e_istore_n rfl rfl rfl ?_
  exact xlfI h
set_option maxRecDepth 4000 in
theorem bX5_firstPlaceOf_123_2_i (v1 : Int32) (v2 : Int32) (m : xmm) {z : Int32 × xmm} (h : (if (m.1 123 6) ≤ v2 then some ((-1 : Int32), m) else (fX5_straightAt_123 (0 : Int32) v2 m).bind fun (w1 : Int32 × xmm) => if w1.1 = v1 then some (v2, w1.2) else bX5_firstPlaceOf_123_2 v1 (v2 + (1 : Int32)) w1.2) = some z) : bX5_firstPlaceOf_123_2 v1 v2 m = some z := by
  refine xstI ?_
  show xT 56 3 2 [(0, .ref 123), (1, .int v1), (2, .int v2)] [] m (some (.int z.1), z.2)
  refine e_iload_n rfl rfl (xnm_no rfl) ?_
  refine e_aload_n rfl rfl rfl (xnm_no rfl) ?_
  refine e_getI rfl rfl rfl rfl (xnm_no rfl) ?_
  refine e_icmp_ge (t := 28) rfl rfl (xnm_no rfl) (xnm_no rfl) h (fun h => ?_) (fun h => ?_)
  · refine e_iconst (x := -1) rfl (by decide) (xnm_no rfl) ?_
    cases h
    exact e_retI rfl rfl
  · refine e_aload_n rfl rfl rfl (xnm_no rfl) ?_
    refine e_iconst (x := 0) rfl (by decide) (xnm_no rfl) ?_
    refine e_iload_n rfl rfl (xnm_no rfl) ?_
    obtain ⟨w1, hw2, h⟩ := xbd_some h
    refine e_cIV (hc := hw2) (rest := []) rfl rfl rfl rfl rfl rfl rfl rfl (xnm_no rfl) ?_
    refine e_iload_n rfl rfl (xnm_no rfl) ?_
    refine e_icmp_ne (t := 22) rfl rfl (xnm_no rfl) (xnm_no rfl) h (fun h => ?_) (fun h => ?_)
    · refine e_iinc (y := 1) rfl rfl rfl (by decide) (xnm_no rfl) ?_
      refine e_goto (t := 2) rfl rfl rfl ?_
      exact xlfI h
    · refine e_iload_n rfl rfl (xnm_no rfl) ?_
      cases h
      exact e_retI rfl rfl
set_option maxRecDepth 4000 in
theorem fX0_has_116_i (v1 : Int32) (m : xmm) {z : Int32 × xmm} (h : ((fX11_isArrow 121 v1 m).bind fun (w1 : Int32 × xmm) => xgd (xz01 w1.1) (some (w1.1, w1.2))) = some z) : fX0_has_116 v1 m = some z := by
  refine xstI ?_
  show xT 3 2 0 [(0, .ref 116), (1, .int v1)] [] m (some (.int z.1), z.2)
  refine e_aload_n rfl rfl rfl (xnm_no rfl) ?_
  refine e_getR (r := 121) rfl rfl rfl rfl rfl (xnm_no rfl) ?_
  refine e_iload_n rfl rfl (xnm_no rfl) ?_
  obtain ⟨w1, hw2, h⟩ := xbd_some h
  refine e_cIS (hc := hw2) (rest := []) rfl rfl rfl rfl rfl rfl rfl rfl (xnm_no rfl) ?_
  obtain ⟨g3, h⟩ := xgd_some h
  cases h
  exact e_retI rfl g3
set_option maxRecDepth 4000 in
theorem fX11_crossedPlace_0_i (v1 : Int32) (v2 : Int32) (m : xmm) {z : Int32 × xmm} (h : ((fX11_isCrossed_0 m).bind fun (w1 : Int32 × xmm) => if w1.1 = 0 then some ((-2 : Int32), w1.2) else bX11_crossedPlace_0_15 v1 v2 (0 : Int32) (0 : Int32) w1.2) = some z) : fX11_crossedPlace_0 v1 v2 m = some z := by
  refine xstI ?_
  show xT 153 3 0 [(0, .ref 0), (1, .int v1), (2, .int v2)] [] m (some (.int z.1), z.2)
  refine e_aload_n rfl rfl rfl (xnm_no rfl) ?_
  obtain ⟨w1, hw2, h⟩ := xbd_some h
  refine e_cIV (hc := hw2) (rest := []) rfl rfl rfl rfl rfl rfl rfl rfl (xnm_no rfl) ?_
  refine e_if_ne (t := 10) rfl rfl (xnm_no rfl) (xnm_no rfl) h (fun h => ?_) (fun h => ?_)
  · refine e_iconst (x := 0) rfl (by decide) (xnm_no rfl) ?_
    refine e_istore_n rfl rfl (xnm_no rfl) ?_
    refine e_iconst (x := 0) rfl (by decide) (xnm_no rfl) ?_
    refine e_istore rfl rfl rfl ?_
    exact xlfI h
  · refine e_bipush (x := -2) rfl (by decide) (xnm_no rfl) ?_
    cases h
    exact e_retI rfl rfl
set_option maxRecDepth 4000 in
theorem bX11_crossedPlace_0_15_i (v1 : Int32) (v2 : Int32) (v3 : Int32) (v4 : Int32) (m : xmm) {z : Int32 × xmm} (h : (if (m.1 10 0) ≤ v4 then some (v3, m) else if v2 = 0 then (fX11_arrowFrom v4 v1 m).bind fun (w1 : Int32 × xmm) => bX11_crossedPlace_0_46 v1 v2 v3 v4 w1.1 w1.2 else (fX11_arrowFrom v1 v4 m).bind fun (w3 : Int32 × xmm) => bX11_crossedPlace_0_46 v1 v2 v3 v4 w3.1 w3.2) = some z) : bX11_crossedPlace_0_15 v1 v2 v3 v4 m = some z := by
  refine xstI ?_
  show xT 153 3 15 [(0, .ref 0), (1, .int v1), (2, .int v2), (3, .int v3), (4, .int v4)] [] m (some (.int z.1), z.2)
  refine e_iload rfl rfl (xnm_no rfl) ?_
  refine e_aload_n rfl rfl rfl (xnm_no rfl) ?_
  refine e_getR (r := 10) rfl rfl rfl rfl rfl (xnm_no rfl) ?_
  refine e_getI rfl rfl rfl rfl (xnm_no rfl) ?_
  refine e_icmp_ge (t := 85) rfl rfl (xnm_no rfl) (xnm_no rfl) h (fun h => ?_) (fun h => ?_)
  · refine e_iload_n rfl rfl (xnm_no rfl) ?_
    cases h
    exact e_retI rfl rfl
  · refine e_iload_n rfl rfl (xnm_no rfl) ?_
    refine e_if_eq (t := 40) rfl rfl (xnm_no rfl) (xnm_no rfl) h (fun h => ?_) (fun h => ?_)
    · refine e_iload rfl rfl (xnm_no rfl) ?_
      refine e_iload_n rfl rfl (xnm_no rfl) ?_
      obtain ⟨w1, hw2, h⟩ := xbd_some h
      refine e_cIS (hc := hw2) (rest := []) rfl rfl rfl rfl rfl rfl rfl rfl rfl ?_
      exact xlfI h
    · refine e_iload_n rfl rfl (xnm_no rfl) ?_
      refine e_iload rfl rfl (xnm_no rfl) ?_
      obtain ⟨w3, hw4, h⟩ := xbd_some h
      refine e_cIS (hc := hw4) (rest := []) rfl rfl rfl rfl rfl rfl rfl rfl (xnm_no rfl) ?_
      refine e_goto (t := 46) rfl rfl rfl ?_
      exact xlfI h
set_option maxRecDepth 4000 in
theorem bX11_crossedPlace_0_46_i (v1 : Int32) (v2 : Int32) (v3 : Int32) (v4 : Int32) (s0 : Int32) (m : xmm) {z : Int32 × xmm} (h : ((fX0_has_109 s0 m).bind fun (w1 : Int32 × xmm) => if w1.1 = 0 then (fX11_arrowFrom v4 v1 w1.2).bind fun (w3 : Int32 × xmm) => (fX0_has_116 w3.1 w3.2).bind fun (w5 : Int32 × xmm) => if w5.1 = 0 then bX11_crossedPlace_0_15 v1 v2 v3 (v4 + (1 : Int32)) w5.2 else bX11_crossedPlace_0_15 v1 v2 (v3 + (1 : Int32)) (v4 + (1 : Int32)) w5.2 else bX11_crossedPlace_0_15 v1 v2 (v3 + (1 : Int32)) (v4 + (1 : Int32)) w1.2) = some z) : bX11_crossedPlace_0_46 v1 v2 v3 v4 s0 m = some z := by
  refine xstI ?_
  show xT 153 3 46 [(0, .ref 0), (1, .int v1), (2, .int v2), (3, .int v3), (4, .int v4)] [.int s0] m (some (.int z.1), z.2)
  refine e_istore rfl rfl (xnm_no rfl) ?_
  refine e_aload_n rfl rfl rfl (xnm_no rfl) ?_
  refine e_getR (r := 109) rfl rfl rfl rfl rfl (xnm_no rfl) ?_
  refine e_iload rfl rfl (xnm_no rfl) ?_
  obtain ⟨w1, hw2, h⟩ := xbd_some h
  refine e_cIV (hc := hw2) (rest := []) rfl rfl rfl rfl rfl rfl rfl rfl (xnm_no rfl) ?_
  refine e_if_ne (t := 76) rfl rfl (xnm_no rfl) (xnm_no rfl) h (fun h => ?_) (fun h => ?_)
  · refine e_iinc (y := 1) rfl rfl rfl (by decide) (xnm_no rfl) ?_
    refine e_iinc (y := 1) rfl rfl rfl (by decide) (xnm_no rfl) ?_
    refine e_goto (t := 15) rfl rfl rfl ?_
    exact xlfI h
  · refine e_aload_n rfl rfl rfl (xnm_no rfl) ?_
    refine e_getR (r := 116) rfl rfl rfl rfl rfl (xnm_no rfl) ?_
    refine e_iload rfl rfl (xnm_no rfl) ?_
    refine e_iload_n rfl rfl (xnm_no rfl) ?_
    obtain ⟨w3, hw4, h⟩ := xbd_some h
    refine e_cIS (hc := hw4) (rest := [.ref 116]) rfl rfl rfl rfl rfl rfl rfl rfl (xnm_no rfl) ?_
    obtain ⟨w5, hw6, h⟩ := xbd_some h
    refine e_cIV (hc := hw6) (rest := []) rfl rfl rfl rfl rfl rfl rfl rfl (xnm_no rfl) ?_
    refine e_if_eq (t := 79) rfl rfl (xnm_no rfl) (xnm_no rfl) h (fun h => ?_) (fun h => ?_)
    · refine e_iinc (y := 1) rfl rfl rfl (by decide) (xnm_no rfl) ?_
      refine e_goto (t := 15) rfl rfl rfl ?_
      exact xlfI h
    · refine e_iinc (y := 1) rfl rfl rfl (by decide) (xnm_no rfl) ?_
      refine e_iinc (y := 1) rfl rfl rfl (by decide) (xnm_no rfl) ?_
      refine e_goto (t := 15) rfl rfl rfl ?_
      exact xlfI h
set_option maxRecDepth 4000 in
theorem fX11_post_0_i (v1 : Int32) (v2 : Int32) (m : xmm) {z : Int32 × xmm} (h : ((fX3_hasPost 10 v1 m).bind fun (w1 : Int32 × xmm) => if w1.1 = 0 then some ((-1 : Int32), w1.2) else if v2 < 0 then some ((-1 : Int32), w1.2) else if v2 ≤ (6 : Int32) then (fX11_study_0 w1.2).bind fun (w3 : xmm) => (fX1_isOrdered_97 w3).bind fun (w5 : Int32 × xmm) => if w5.1 = 0 then some ((-2 : Int32), w5.2) else if v2 = 0 then (fX5_levelOf_123 v1 w5.2).bind fun (w8 : Int32 × xmm) => some (w8.1, w8.2) else if v2 = 1 then (fX5_belowOf_123 v1 w5.2).bind fun (w11 : Int32 × xmm) => some (w11.1, w11.2) else if v2 = 2 then (fX5_aboveOf_123 v1 w5.2).bind fun (w14 : Int32 × xmm) => some (w14.1, w14.2) else if v2 = 3 then (fX5_coveredBy_123 v1 w5.2).bind fun (w17 : Int32 × xmm) => some (w17.1, w17.2) else if v2 = 4 then (fX5_firstPlaceOf_123 v1 w5.2).bind fun (w20 : Int32 × xmm) => some (w20.1, w20.2) else if v2 = 5 then (fX11_crossedPlace_0 v1 (0 : Int32) w5.2).bind fun (w23 : Int32 × xmm) => some (w23.1, w23.2) else (fX11_crossedPlace_0 v1 (1 : Int32) w5.2).bind fun (w25 : Int32 × xmm) => some (w25.1, w25.2) else some ((-1 : Int32), w1.2)) = some z) : fX11_post_0 v1 v2 m = some z := by
  refine xstI ?_
  show xT 133 6 0 [(0, .ref 0), (1, .int v1), (2, .int v2)] [] m (some (.int z.1), z.2)
  refine e_aload_n rfl rfl rfl (xnm_no rfl) ?_
  refine e_getR (r := 10) rfl rfl rfl rfl rfl (xnm_no rfl) ?_
  refine e_iload_n rfl rfl (xnm_no rfl) ?_
  obtain ⟨w1, hw2, h⟩ := xbd_some h
  refine e_cIV (hc := hw2) (rest := []) rfl rfl rfl rfl rfl rfl rfl rfl (xnm_no rfl) ?_
  refine e_if_eq (t := 21) rfl rfl (xnm_no rfl) (xnm_no rfl) h (fun h => ?_) (fun h => ?_)
  · refine e_iconst (x := -1) rfl (by decide) (xnm_no rfl) ?_
    cases h
    exact e_retI rfl rfl
  · refine e_iload_n rfl rfl (xnm_no rfl) ?_
    refine e_if_lt (t := 21) rfl rfl (xnm_no rfl) (xnm_no rfl) h (fun h => ?_) (fun h => ?_)
    · refine e_iconst (x := -1) rfl (by decide) (xnm_no rfl) ?_
      cases h
      exact e_retI rfl rfl
    · refine e_iload_n rfl rfl (xnm_no rfl) ?_
      refine e_bipush (x := 6) rfl (by decide) (xnm_no rfl) ?_
      refine e_icmp_le (t := 23) rfl rfl (xnm_no rfl) (xnm_no rfl) h (fun h => ?_) (fun h => ?_)
      · refine e_aload_n rfl rfl rfl (xnm_no rfl) ?_
        obtain ⟨w3, hw4, h⟩ := xbd_some h
        refine e_cVV (hc := hw4) (rest := []) rfl rfl rfl rfl rfl rfl rfl rfl (xnm_no rfl) ?_
        refine e_aload_n rfl rfl rfl (xnm_no rfl) ?_
        refine e_getR (r := 97) rfl rfl rfl rfl rfl (xnm_no rfl) ?_
        obtain ⟨w5, hw6, h⟩ := xbd_some h
        refine e_cIV (hc := hw6) (rest := []) rfl rfl rfl rfl rfl rfl rfl rfl (xnm_no rfl) ?_
        refine e_if_ne (t := 40) rfl rfl (xnm_no rfl) (xnm_no rfl) h (fun h => ?_) (fun h => ?_)
        · refine e_iload_n rfl rfl (xnm_no rfl) ?_
          by_cases c7 : v2 = 0
          · rw [if_pos c7] at h
            refine e_sw (t := 80) (o := 39) rfl (by decide) (xsw_p c7) rfl (xnm_no rfl) ?_
            refine e_aload_n rfl rfl rfl (xnm_no rfl) ?_
            refine e_getR (r := 123) rfl rfl rfl rfl rfl (xnm_no rfl) ?_
            refine e_iload_n rfl rfl (xnm_no rfl) ?_
            obtain ⟨w8, hw9, h⟩ := xbd_some h
            refine e_cIV (hc := hw9) (rest := []) rfl rfl rfl rfl rfl rfl rfl rfl (xnm_no rfl) ?_
            cases h
            exact e_retI rfl rfl
          · rw [if_neg c7] at h
            by_cases c10 : v2 = 1
            · rw [if_pos c10] at h
              refine e_sw (t := 89) (o := 48) rfl (by decide) (xsw_n c7 (xsw_p c10)) rfl (xnm_no rfl) ?_
              refine e_aload_n rfl rfl rfl (xnm_no rfl) ?_
              refine e_getR (r := 123) rfl rfl rfl rfl rfl (xnm_no rfl) ?_
              refine e_iload_n rfl rfl (xnm_no rfl) ?_
              obtain ⟨w11, hw12, h⟩ := xbd_some h
              refine e_cIV (hc := hw12) (rest := []) rfl rfl rfl rfl rfl rfl rfl rfl (xnm_no rfl) ?_
              cases h
              exact e_retI rfl rfl
            · rw [if_neg c10] at h
              by_cases c13 : v2 = 2
              · rw [if_pos c13] at h
                refine e_sw (t := 98) (o := 57) rfl (by decide) (xsw_n c7 (xsw_n c10 (xsw_p c13))) rfl (xnm_no rfl) ?_
                refine e_aload_n rfl rfl rfl (xnm_no rfl) ?_
                refine e_getR (r := 123) rfl rfl rfl rfl rfl (xnm_no rfl) ?_
                refine e_iload_n rfl rfl (xnm_no rfl) ?_
                obtain ⟨w14, hw15, h⟩ := xbd_some h
                refine e_cIV (hc := hw15) (rest := []) rfl rfl rfl rfl rfl rfl rfl rfl (xnm_no rfl) ?_
                cases h
                exact e_retI rfl rfl
              · rw [if_neg c13] at h
                by_cases c16 : v2 = 3
                · rw [if_pos c16] at h
                  refine e_sw (t := 107) (o := 66) rfl (by decide) (xsw_n c7 (xsw_n c10 (xsw_n c13 (xsw_p c16)))) rfl (xnm_no rfl) ?_
                  refine e_aload_n rfl rfl rfl (xnm_no rfl) ?_
                  refine e_getR (r := 123) rfl rfl rfl rfl rfl (xnm_no rfl) ?_
                  refine e_iload_n rfl rfl (xnm_no rfl) ?_
                  obtain ⟨w17, hw18, h⟩ := xbd_some h
                  refine e_cIV (hc := hw18) (rest := []) rfl rfl rfl rfl rfl rfl rfl rfl (xnm_no rfl) ?_
                  cases h
                  exact e_retI rfl rfl
                · rw [if_neg c16] at h
                  by_cases c19 : v2 = 4
                  · rw [if_pos c19] at h
                    refine e_sw (t := 116) (o := 75) rfl (by decide) (xsw_n c7 (xsw_n c10 (xsw_n c13 (xsw_n c16 (xsw_p c19))))) rfl (xnm_no rfl) ?_
                    refine e_aload_n rfl rfl rfl (xnm_no rfl) ?_
                    refine e_getR (r := 123) rfl rfl rfl rfl rfl (xnm_no rfl) ?_
                    refine e_iload_n rfl rfl (xnm_no rfl) ?_
                    obtain ⟨w20, hw21, h⟩ := xbd_some h
                    refine e_cIV (hc := hw21) (rest := []) rfl rfl rfl rfl rfl rfl rfl rfl (xnm_no rfl) ?_
                    cases h
                    exact e_retI rfl rfl
                  · rw [if_neg c19] at h
                    by_cases c22 : v2 = 5
                    · rw [if_pos c22] at h
                      refine e_sw (t := 125) (o := 84) rfl (by decide) (xsw_n c7 (xsw_n c10 (xsw_n c13 (xsw_n c16 (xsw_n c19 (xsw_p c22)))))) rfl (xnm_no rfl) ?_
                      refine e_aload_n rfl rfl rfl (xnm_no rfl) ?_
                      refine e_iload_n rfl rfl (xnm_no rfl) ?_
                      refine e_iconst (x := 0) rfl (by decide) (xnm_no rfl) ?_
                      obtain ⟨w23, hw24, h⟩ := xbd_some h
                      refine e_cIV (hc := hw24) (rest := []) rfl rfl rfl rfl rfl rfl rfl rfl (xnm_no rfl) ?_
                      cases h
                      exact e_retI rfl rfl
                    · rw [if_neg c22] at h
                      refine e_sw (t := 132) (o := 91) rfl (by decide) (xsw_n c7 (xsw_n c10 (xsw_n c13 (xsw_n c16 (xsw_n c19 (xsw_n c22 xsw_d)))))) rfl (xnm_no rfl) ?_
                      refine e_aload_n rfl rfl rfl (xnm_no rfl) ?_
                      refine e_iload_n rfl rfl (xnm_no rfl) ?_
                      refine e_iconst (x := 1) rfl (by decide) (xnm_no rfl) ?_
                      obtain ⟨w25, hw26, h⟩ := xbd_some h
                      refine e_cIV (hc := hw26) (rest := []) rfl rfl rfl rfl rfl rfl rfl rfl (xnm_no rfl) ?_
                      cases h
                      exact e_retI rfl rfl
        · refine e_bipush (x := -2) rfl (by decide) (xnm_no rfl) ?_
          cases h
          exact e_retI rfl rfl
      · refine e_iconst (x := -1) rfl (by decide) (xnm_no rfl) ?_
        cases h
        exact e_retI rfl rfl
set_option maxRecDepth 4000 in
theorem fX12_greatestLevel_144_i (m : xmm) {z : Int32 × xmm} (h : (bX12_greatestLevel_144_4 (-1 : Int32) (0 : Int32) m) = some z) : fX12_greatestLevel_144 m = some z := by
  refine xstI ?_
  show xT 225 1 0 [(0, .ref 144)] [] m (some (.int z.1), z.2)
  refine e_iconst (x := -1) rfl (by decide) (xnm_no rfl) ?_
  refine e_istore_n rfl rfl (xnm_no rfl) ?_
  refine e_iconst (x := 0) rfl (by decide) (xnm_no rfl) ?_
  refine e_istore_n rfl rfl rfl ?_
  exact xlfI h
set_option maxRecDepth 4000 in
theorem bX12_greatestLevel_144_4_i (v1 : Int32) (v2 : Int32) (m : xmm) {z : Int32 × xmm} (h : (if v2 < (m.1 144 17) then bX12_greatestLevel_144_18 v1 v2 (0 : Int32) m else if v2 = 0 then bX12_greatestLevel_144_18 v1 v2 (0 : Int32) m else some (v1, m)) = some z) : bX12_greatestLevel_144_4 v1 v2 m = some z := by
  refine xstI ?_
  show xT 225 1 4 [(0, .ref 144), (1, .int v1), (2, .int v2)] [] m (some (.int z.1), z.2)
  refine e_iload_n rfl rfl (xnm_no rfl) ?_
  refine e_aload_n rfl rfl rfl (xnm_no rfl) ?_
  refine e_getI rfl rfl rfl rfl (xnm_no rfl) ?_
  refine e_icmp_lt (t := 16) rfl rfl (xnm_no rfl) (xnm_no rfl) h (fun h => ?_) (fun h => ?_)
  · refine e_iconst (x := 0) rfl (by decide) (xnm_no rfl) ?_
    refine e_istore_n rfl rfl rfl ?_
    exact xlfI h
  · refine e_iload_n rfl rfl (xnm_no rfl) ?_
    refine e_if_ne (t := 123) rfl rfl (xnm_no rfl) (xnm_no rfl) h (fun h => ?_) (fun h => ?_)
    · refine e_iload_n rfl rfl (xnm_no rfl) ?_
      cases h
      exact e_retI rfl rfl
    · refine e_iconst (x := 0) rfl (by decide) (xnm_no rfl) ?_
      refine e_istore_n rfl rfl rfl ?_
      exact xlfI h
set_option maxRecDepth 4000 in
theorem bX12_greatestLevel_144_18_i (v1 : Int32) (v2 : Int32) (v3 : Int32) (m : xmm) {z : Int32 × xmm} (h : (if (m.1 144 17) ≤ v3 then bX12_greatestLevel_144_4 v1 (v2 + (1 : Int32)) m else bX12_greatestLevel_144_32 v1 v2 v3 (0 : Int32) (0 : Int32) m) = some z) : bX12_greatestLevel_144_18 v1 v2 v3 m = some z := by
  refine xstI ?_
  show xT 225 1 18 [(0, .ref 144), (1, .int v1), (2, .int v2), (3, .int v3)] [] m (some (.int z.1), z.2)
  refine e_iload_n rfl rfl (xnm_no rfl) ?_
  refine e_aload_n rfl rfl rfl (xnm_no rfl) ?_
  refine e_getI rfl rfl rfl rfl (xnm_no rfl) ?_
  refine e_icmp_ge (t := 117) rfl rfl (xnm_no rfl) (xnm_no rfl) h (fun h => ?_) (fun h => ?_)
  · refine e_iinc (y := 1) rfl rfl rfl (by decide) (xnm_no rfl) ?_
    refine e_goto (t := 4) rfl rfl rfl ?_
    exact xlfI h
  · refine e_iconst (x := 0) rfl (by decide) (xnm_no rfl) ?_
    refine e_istore rfl rfl (xnm_no rfl) ?_
    refine e_iconst (x := 0) rfl (by decide) (xnm_no rfl) ?_
    refine e_istore rfl rfl rfl ?_
    exact xlfI h
set_option maxRecDepth 4000 in
theorem bX12_greatestLevel_144_32_i (v1 : Int32) (v2 : Int32) (v3 : Int32) (v4 : Int32) (v5 : Int32) (m : xmm) {z : Int32 × xmm} (h : (if (m.1 144 17) ≤ v5 then xgd (xinb 8 v3) (xlt (xwi m 172 (v3).toNatClampNeg v4) fun (m2 : xmm) => if v4 ≤ v1 then bX12_greatestLevel_144_18 v1 v2 (v3 + (1 : Int32)) m2 else bX12_greatestLevel_144_18 v4 v2 (v3 + (1 : Int32)) m2) else if v2 ≤ 0 then bX12_greatestLevel_144_32 v1 v2 v3 v4 (v5 + (1 : Int32)) m else xgd (xinb 8 v3) ((fX12_has (m.1 165 (v3).toNatClampNeg) v5 m).bind fun (w4 : Int32 × xmm) => if w4.1 = 0 then bX12_greatestLevel_144_32 v1 v2 v3 v4 (v5 + (1 : Int32)) w4.2 else xgd (xinb 8 v5) (if ((w4.2.1 172 (v5).toNatClampNeg) + (1 : Int32)) ≤ v4 then bX12_greatestLevel_144_32 v1 v2 v3 v4 (v5 + (1 : Int32)) w4.2 else bX12_greatestLevel_144_32 v1 v2 v3 ((w4.2.1 172 (v5).toNatClampNeg) + (1 : Int32)) (v5 + (1 : Int32)) w4.2))) = some z) : bX12_greatestLevel_144_32 v1 v2 v3 v4 v5 m = some z := by
  refine xstI ?_
  show xT 225 1 32 [(0, .ref 144), (1, .int v1), (2, .int v2), (3, .int v3), (4, .int v4), (5, .int v5)] [] m (some (.int z.1), z.2)
  refine e_iload rfl rfl (xnm_no rfl) ?_
  refine e_aload_n rfl rfl rfl (xnm_no rfl) ?_
  refine e_getI rfl rfl rfl rfl (xnm_no rfl) ?_
  refine e_icmp_ge (t := 90) rfl rfl (xnm_no rfl) (xnm_no rfl) h (fun h => ?_) (fun h => ?_)
  · refine e_aload_n rfl rfl rfl (xnm_no rfl) ?_
    refine e_getR (r := 172) rfl rfl rfl rfl rfl (xnm_no rfl) ?_
    refine e_iload_n rfl rfl (xnm_no rfl) ?_
    refine e_iload rfl rfl (xnm_no rfl) ?_
    obtain ⟨g1, h⟩ := xgd_some h
    refine e_iast rfl g1 (xnm_no rfl) ?_
    replace h := xlt_b h
    refine e_iload rfl rfl (xnm_no rfl) ?_
    refine e_iload_n rfl rfl (xnm_no rfl) ?_
    refine e_icmp_le (t := 109) rfl rfl (xnm_no rfl) (xnm_no rfl) h (fun h => ?_) (fun h => ?_)
    · refine e_iload_n rfl rfl (xnm_no rfl) ?_
      refine e_istore_n rfl rfl (xnm_no rfl) ?_
      refine e_iinc (y := 1) rfl rfl rfl (by decide) (xnm_no rfl) ?_
      refine e_goto (t := 18) rfl rfl rfl ?_
      exact xlfI h
    · refine e_iload rfl rfl (xnm_no rfl) ?_
      refine e_goto (t := 110) rfl rfl (xnm_no rfl) ?_
      refine e_istore_n rfl rfl (xnm_no rfl) ?_
      refine e_iinc (y := 1) rfl rfl rfl (by decide) (xnm_no rfl) ?_
      refine e_goto (t := 18) rfl rfl rfl ?_
      exact xlfI h
  · refine e_iload_n rfl rfl (xnm_no rfl) ?_
    refine e_if_le (t := 84) rfl rfl (xnm_no rfl) (xnm_no rfl) h (fun h => ?_) (fun h => ?_)
    · refine e_iinc (y := 1) rfl rfl rfl (by decide) (xnm_no rfl) ?_
      refine e_goto (t := 32) rfl rfl rfl ?_
      exact xlfI h
    · refine e_aload_n rfl rfl rfl (xnm_no rfl) ?_
      refine e_getR (r := 165) rfl rfl rfl rfl rfl (xnm_no rfl) ?_
      refine e_iload_n rfl rfl (xnm_no rfl) ?_
      obtain ⟨g3, h⟩ := xgd_some h
      refine e_iald rfl g3 (xnm_no rfl) ?_
      refine e_iload rfl rfl (xnm_no rfl) ?_
      obtain ⟨w4, hw5, h⟩ := xbd_some h
      refine e_cIS (hc := hw5) (rest := []) rfl rfl rfl rfl rfl rfl rfl rfl (xnm_no rfl) ?_
      refine e_if_eq (t := 84) rfl rfl (xnm_no rfl) (xnm_no rfl) h (fun h => ?_) (fun h => ?_)
      · refine e_iinc (y := 1) rfl rfl rfl (by decide) (xnm_no rfl) ?_
        refine e_goto (t := 32) rfl rfl rfl ?_
        exact xlfI h
      · refine e_aload_n rfl rfl rfl (xnm_no rfl) ?_
        refine e_getR (r := 172) rfl rfl rfl rfl rfl (xnm_no rfl) ?_
        refine e_iload rfl rfl (xnm_no rfl) ?_
        obtain ⟨g6, h⟩ := xgd_some h
        refine e_iald rfl g6 (xnm_no rfl) ?_
        refine e_iconst (x := 1) rfl (by decide) (xnm_no rfl) ?_
        refine e_iadd rfl (xnm_no rfl) ?_
        refine e_iload rfl rfl (xnm_no rfl) ?_
        refine e_icmp_le (t := 84) rfl rfl (xnm_no rfl) (xnm_no rfl) h (fun h => ?_) (fun h => ?_)
        · refine e_iinc (y := 1) rfl rfl rfl (by decide) (xnm_no rfl) ?_
          refine e_goto (t := 32) rfl rfl rfl ?_
          exact xlfI h
        · refine e_aload_n rfl rfl rfl (xnm_no rfl) ?_
          refine e_getR (r := 172) rfl rfl rfl rfl rfl (xnm_no rfl) ?_
          refine e_iload rfl rfl (xnm_no rfl) ?_
          refine e_iald rfl g6 (xnm_no rfl) ?_
          refine e_iconst (x := 1) rfl (by decide) (xnm_no rfl) ?_
          refine e_iadd rfl (xnm_no rfl) ?_
          refine e_istore rfl rfl (xnm_no rfl) ?_
          refine e_iinc (y := 1) rfl rfl rfl (by decide) (xnm_no rfl) ?_
          refine e_goto (t := 32) rfl rfl rfl ?_
          exact xlfI h
set_option maxRecDepth 4000 in
theorem fX12_coversOf_144_i (v1 : Int32) (m : xmm) {z : Int32 × xmm} (h : (bX12_coversOf_144_4 v1 (0 : Int32) (0 : Int32) m) = some z) : fX12_coversOf_144 v1 m = some z := by
  refine xstI ?_
  show xT 226 1 0 [(0, .ref 144), (1, .int v1)] [] m (some (.int z.1), z.2)
  refine e_iconst (x := 0) rfl (by decide) (xnm_no rfl) ?_
  refine e_istore_n rfl rfl (xnm_no rfl) ?_
  refine e_iconst (x := 0) rfl (by decide) (xnm_no rfl) ?_
  refine e_istore_n rfl rfl rfl ?_
  exact xlfI h
set_option maxRecDepth 4000 in
theorem bX12_coversOf_144_4_i (v1 : Int32) (v2 : Int32) (v3 : Int32) (m : xmm) {z : Int32 × xmm} (h : (if (m.1 144 17) ≤ v3 then some (v2, m) else xgd (xinb 8 v1) ((fX12_has (m.1 164 (v1).toNatClampNeg) v3 m).bind fun (w2 : Int32 × xmm) => if w2.1 = 0 then bX12_coversOf_144_4 v1 v2 (v3 + (1 : Int32)) w2.2 else xgd (xinb 8 v3) (if ((w2.2.1 164 (v1).toNatClampNeg) &&& (w2.2.1 165 (v3).toNatClampNeg)) = 0 then bX12_coversOf_144_4 v1 (v2 ||| ((1 : Int32) <<< (v3 &&& 31))) (v3 + (1 : Int32)) w2.2 else bX12_coversOf_144_4 v1 v2 (v3 + (1 : Int32)) w2.2))) = some z) : bX12_coversOf_144_4 v1 v2 v3 m = some z := by
  refine xstI ?_
  show xT 226 1 4 [(0, .ref 144), (1, .int v1), (2, .int v2), (3, .int v3)] [] m (some (.int z.1), z.2)
  refine e_iload_n rfl rfl (xnm_no rfl) ?_
  refine e_aload_n rfl rfl rfl (xnm_no rfl) ?_
  refine e_getI rfl rfl rfl rfl (xnm_no rfl) ?_
  refine e_icmp_ge (t := 53) rfl rfl (xnm_no rfl) (xnm_no rfl) h (fun h => ?_) (fun h => ?_)
  · refine e_iload_n rfl rfl (xnm_no rfl) ?_
    cases h
    exact e_retI rfl rfl
  · refine e_aload_n rfl rfl rfl (xnm_no rfl) ?_
    refine e_getR (r := 164) rfl rfl rfl rfl rfl (xnm_no rfl) ?_
    refine e_iload_n rfl rfl (xnm_no rfl) ?_
    obtain ⟨g1, h⟩ := xgd_some h
    refine e_iald rfl g1 (xnm_no rfl) ?_
    refine e_iload_n rfl rfl (xnm_no rfl) ?_
    obtain ⟨w2, hw3, h⟩ := xbd_some h
    refine e_cIS (hc := hw3) (rest := []) rfl rfl rfl rfl rfl rfl rfl rfl (xnm_no rfl) ?_
    refine e_if_eq (t := 47) rfl rfl (xnm_no rfl) (xnm_no rfl) h (fun h => ?_) (fun h => ?_)
    · refine e_iinc (y := 1) rfl rfl rfl (by decide) (xnm_no rfl) ?_
      refine e_goto (t := 4) rfl rfl rfl ?_
      exact xlfI h
    · refine e_aload_n rfl rfl rfl (xnm_no rfl) ?_
      refine e_getR (r := 164) rfl rfl rfl rfl rfl (xnm_no rfl) ?_
      refine e_iload_n rfl rfl (xnm_no rfl) ?_
      refine e_iald rfl g1 (xnm_no rfl) ?_
      refine e_aload_n rfl rfl rfl (xnm_no rfl) ?_
      refine e_getR (r := 165) rfl rfl rfl rfl rfl (xnm_no rfl) ?_
      refine e_iload_n rfl rfl (xnm_no rfl) ?_
      obtain ⟨g4, h⟩ := xgd_some h
      refine e_iald rfl g4 (xnm_no rfl) ?_
      refine e_iand rfl (xnm_no rfl) ?_
      refine e_if_ne (t := 47) rfl rfl (xnm_no rfl) (xnm_no rfl) h (fun h => ?_) (fun h => ?_)
      · refine e_iinc (y := 1) rfl rfl rfl (by decide) (xnm_no rfl) ?_
        refine e_goto (t := 4) rfl rfl rfl ?_
        exact xlfI h
      · refine e_iload_n rfl rfl (xnm_no rfl) ?_
        refine e_iconst (x := 1) rfl (by decide) (xnm_no rfl) ?_
        refine e_iload_n rfl rfl (xnm_no rfl) ?_
        refine e_ishl rfl (xnm_no rfl) ?_
        refine e_ior rfl (xnm_no rfl) ?_
        refine e_istore_n rfl rfl (xnm_no rfl) ?_
        refine e_iinc (y := 1) rfl rfl rfl (by decide) (xnm_no rfl) ?_
        refine e_goto (t := 4) rfl rfl rfl ?_
        exact xlfI h
