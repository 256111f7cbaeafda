set_option maxRecDepth 4000 in
theorem fX2_factorial_i (v0 : Int32) (m : xmm) {z : Int32 × xmm} (h : (bX2_factorial_4 v0 (1 : Int32) (2 : Int32) m) = some z) : fX2_factorial v0 m = some z := by
  refine xstI ?_
  show xT 22 0 0 [(0, .int v0)] [] m (some (.int z.1), z.2)
  refine e_iconst (x := 1) rfl (by decide) (xnm_no rfl) ?_
  refine e_istore_n rfl rfl (xnm_no rfl) ?_
  refine e_iconst (x := 2) rfl (by decide) (xnm_no rfl) ?_
  refine e_istore_n rfl rfl rfl ?_
  exact xlfI h
set_option maxRecDepth 4000 in
theorem bX2_factorial_4_i (v0 : Int32) (v1 : Int32) (v2 : Int32) (m : xmm) {z : Int32 × xmm} (h : (if v0 < v2 then some (v1, m) else if (8 : Int32) < v2 then some (v1, m) else bX2_factorial_4 v0 (v1 * v2) (v2 + (1 : Int32)) m) = some z) : bX2_factorial_4 v0 v1 v2 m = some z := by
  refine xstI ?_
  show xT 22 0 4 [(0, .int v0), (1, .int v1), (2, .int v2)] [] m (some (.int z.1), z.2)
  refine e_iload_n rfl rfl (xnm_no rfl) ?_
  refine e_iload_n rfl rfl (xnm_no rfl) ?_
  refine e_icmp_gt (t := 25) rfl rfl (xnm_no rfl) (xnm_no rfl) h (fun h => ?_) (fun h => ?_)
  · refine e_iload_n rfl rfl (xnm_no rfl) ?_
    cases h
    exact e_retI rfl rfl
  · refine e_iload_n rfl rfl (xnm_no rfl) ?_
    refine e_bipush (x := 8) rfl (by decide) (xnm_no rfl) ?_
    refine e_icmp_gt (t := 25) rfl rfl (xnm_no rfl) (xnm_no rfl) h (fun h => ?_) (fun h => ?_)
    · refine e_iload_n rfl rfl (xnm_no rfl) ?_
      cases h
      exact e_retI rfl rfl
    · refine e_iload_n rfl rfl (xnm_no rfl) ?_
      refine e_iload_n rfl rfl (xnm_no rfl) ?_
      refine e_imul rfl (xnm_no rfl) ?_
      refine e_istore_n rfl rfl (xnm_no rfl) ?_
      refine e_iinc (y := 1) rfl rfl rfl (by decide) (xnm_no rfl) ?_
      refine e_goto (t := 4) rfl rfl rfl ?_
      exact xlfI h
set_option maxRecDepth 4000 in
theorem fX2_ownWays_i (v0 : Nat) (v1 : Nat) (v2 : Int32) (m : xmm) {z : Int32 × xmm} (h : (xgd (!(Nat.beq v0 1999)) (xgd (xob v0 3) (xgr (xR0 v0 2) fun r3 => (fX9_parts r3 v2 m).bind fun (w5 : Int32 × xmm) => if (1 : Int32) < w5.1 then some ((1 : Int32), w5.2) else (fJ6_bitCount v2 w5.2).bind fun (w7 : Int32 × xmm) => if (2 : Int32) ≤ w7.1 then xgd (!(Nat.beq v1 1999)) (xgd (xob v1 3) (xgr (xR0 v1 2) fun r11 => (fX9_parts r11 v2 w7.2).bind fun (w13 : Int32 × xmm) => if w13.1 = (1 : Int32) then some ((2 : Int32), w13.2) else (fX2_factorial w13.1 w13.2).bind fun (w15 : Int32 × xmm) => some (w15.1, w15.2))) else some ((1 : Int32), w7.2)))) = some z) : fX2_ownWays v0 v1 v2 m = some z := by
  refine xstI ?_
  show xT 21 4 0 [(0, .ref v0), (1, .ref v1), (2, .int v2)] [] m (some (.int z.1), z.2)
  obtain ⟨g1, h⟩ := xgd_some h
  refine e_aload_n rfl rfl (xnb g1) (xnm_no rfl) ?_
  obtain ⟨g2, h⟩ := xgd_some h
  obtain ⟨r3, hr4, h⟩ := xgr_some h
  refine e_getR rfl rfl rfl g2 hr4 (xnm_no rfl) ?_
  refine e_iload_n rfl rfl (xnm_no rfl) ?_
  obtain ⟨w5, hw6, h⟩ := xbd_some h
  refine e_cIS (hc := hw6) (rest := []) rfl rfl rfl rfl rfl rfl rfl rfl (xnm_no rfl) ?_
  refine e_iconst (x := 1) rfl (by decide) (xnm_no rfl) ?_
  refine e_icmp_gt (t := 20) rfl rfl (xnm_no rfl) (xnm_no rfl) h (fun h => ?_) (fun h => ?_)
  · refine e_iconst (x := 1) rfl (by decide) (xnm_no rfl) ?_
    cases h
    exact e_retI rfl rfl
  · refine e_iload_n rfl rfl (xnm_no rfl) ?_
    obtain ⟨w7, hw8, h⟩ := xbd_some h
    refine e_cIS (hc := hw8) (rest := []) rfl rfl rfl rfl rfl rfl rfl rfl (xnm_no rfl) ?_
    refine e_iconst (x := 2) rfl (by decide) (xnm_no rfl) ?_
    refine e_icmp_ge (t := 22) rfl rfl (xnm_no rfl) (xnm_no rfl) h (fun h => ?_) (fun h => ?_)
    · obtain ⟨g9, h⟩ := xgd_some h
      refine e_aload_n rfl rfl (xnb g9) (xnm_no rfl) ?_
      obtain ⟨g10, h⟩ := xgd_some h
      obtain ⟨r11, hr12, h⟩ := xgr_some h
      refine e_getR rfl rfl rfl g10 hr12 (xnm_no rfl) ?_
      refine e_iload_n rfl rfl (xnm_no rfl) ?_
      obtain ⟨w13, hw14, h⟩ := xbd_some h
      refine e_cIS (hc := hw14) (rest := []) rfl rfl rfl rfl rfl rfl rfl rfl (xnm_no rfl) ?_
      refine e_istore_n rfl rfl (xnm_no rfl) ?_
      refine e_iload_n rfl rfl (xnm_no rfl) ?_
      refine e_iconst (x := 1) rfl (by decide) (xnm_no rfl) ?_
      refine e_icmp_ne (t := 40) rfl rfl (xnm_no rfl) (xnm_no rfl) h (fun h => ?_) (fun h => ?_)
      · refine e_iload_n rfl rfl (xnm_no rfl) ?_
        obtain ⟨w15, hw16, h⟩ := xbd_some h
        refine e_cIS (hc := hw16) (rest := []) rfl rfl rfl rfl rfl rfl rfl rfl (xnm_no rfl) ?_
        cases h
        exact e_retI rfl rfl
      · refine e_iconst (x := 2) rfl (by decide) (xnm_no rfl) ?_
        refine e_goto (t := 44) rfl rfl (xnm_no rfl) ?_
        cases h
        exact e_retI rfl rfl
    · refine e_iconst (x := 1) rfl (by decide) (xnm_no rfl) ?_
      cases h
      exact e_retI rfl rfl
set_option maxRecDepth 4000 in
theorem fX2_ways_130_10_12_i (m : xmm) {z : Int32 × xmm} (h : ((fX3_everyPost 10 m).bind fun (w1 : Int32 × xmm) => bX2_ways_130_10_12_8 w1.1 (0 : Int32) w1.2) = some z) : fX2_ways_130_10_12 m = some z := by
  refine xstI ?_
  show xT 19 5 0 [(0, .ref 130), (1, .ref 10), (2, .ref 12)] [] m (some (.int z.1), z.2)
  refine e_aload_n rfl rfl rfl (xnm_no rfl) ?_
  obtain ⟨w1, hw2, h⟩ := xbd_some h
  refine e_cIV (hc := hw2) (rest := []) rfl rfl rfl rfl rfl rfl rfl rfl (xnm_no rfl) ?_
  refine e_istore_n rfl rfl (xnm_no rfl) ?_
  refine e_iconst (x := 0) rfl (by decide) (xnm_no rfl) ?_
  refine e_istore rfl rfl rfl ?_
  exact xlfI h
set_option maxRecDepth 4000 in
theorem bX2_ways_130_10_12_8_i (v3 : Int32) (v4 : Int32) (m : xmm) {z : Int32 × xmm} (h : (if v3 < v4 then bX2_ways_130_10_12_51 v3 (1 : Int32) (1 : Int32) m else if (256 : Int32) ≤ v4 then bX2_ways_130_10_12_51 v3 (1 : Int32) (1 : Int32) m else (fX9_isAlike 11 v4 v3 m).bind fun (w1 : Int32 × xmm) => xgd (xinb 256 v4) (xgd (xz01 w1.1) (xlt (xwi w1.2 131 (v4).toNatClampNeg w1.1) fun (m5 : xmm) => bX2_ways_130_10_12_8 v3 (v4 + (1 : Int32)) m5))) = some z) : bX2_ways_130_10_12_8 v3 v4 m = some z := by
  refine xstI ?_
  show xT 19 5 8 [(0, .ref 130), (1, .ref 10), (2, .ref 12), (3, .int v3), (4, .int v4)] [] m (some (.int z.1), z.2)
  refine e_iload rfl rfl (xnm_no rfl) ?_
  refine e_iload_n rfl rfl (xnm_no rfl) ?_
  refine e_icmp_gt (t := 45) rfl rfl (xnm_no rfl) (xnm_no rfl) h (fun h => ?_) (fun h => ?_)
  · refine e_iconst (x := 1) rfl (by decide) (xnm_no rfl) ?_
    refine e_istore rfl rfl (xnm_no rfl) ?_
    refine e_iconst (x := 1) rfl (by decide) (xnm_no rfl) ?_
    refine e_istore rfl rfl rfl ?_
    exact xlfI h
  · refine e_iload rfl rfl (xnm_no rfl) ?_
    refine e_sipush (x := 256) rfl (by decide) (xnm_no rfl) ?_
    refine e_icmp_ge (t := 45) rfl rfl (xnm_no rfl) (xnm_no rfl) h (fun h => ?_) (fun h => ?_)
    · refine e_iconst (x := 1) rfl (by decide) (xnm_no rfl) ?_
      refine e_istore rfl rfl (xnm_no rfl) ?_
      refine e_iconst (x := 1) rfl (by decide) (xnm_no rfl) ?_
      refine e_istore rfl rfl rfl ?_
      exact xlfI h
    · refine e_aload_n rfl rfl rfl (xnm_no rfl) ?_
      refine e_getR (r := 131) rfl rfl rfl rfl rfl (xnm_no rfl) ?_
      refine e_iload rfl rfl (xnm_no rfl) ?_
      refine e_aload_n rfl rfl rfl (xnm_no rfl) ?_
      refine e_getR (r := 11) rfl rfl rfl rfl rfl (xnm_no rfl) ?_
      refine e_iload rfl rfl (xnm_no rfl) ?_
      refine e_iload_n rfl rfl (xnm_no rfl) ?_
      obtain ⟨w1, hw2, h⟩ := xbd_some h
      refine e_cIS (hc := hw2) (rest := [.int _, .ref 131]) rfl rfl rfl rfl rfl rfl rfl rfl (xnm_no rfl) ?_
      obtain ⟨g3, h⟩ := xgd_some h
      obtain ⟨g4, h⟩ := xgd_some h
      refine e_zast rfl g3 g4 (xnm_no rfl) ?_
      replace h := xlt_b h
      refine e_iinc (y := 1) rfl rfl rfl (by decide) (xnm_no rfl) ?_
      refine e_goto (t := 8) rfl rfl rfl ?_
      exact xlfI h
set_option maxRecDepth 4000 in
theorem bX2_ways_130_10_12_51_i (v3 : Int32) (v4 : Int32) (v5 : Int32) (m : xmm) {z : Int32 × xmm} (h : (if v3 < v5 then some (v4, m) else if (256 : Int32) ≤ v5 then some (v4, m) else xgd (xinb 256 v5) (if (m.1 131 (v5).toNatClampNeg) = 0 then bX2_ways_130_10_12_51 v3 v4 (v5 + (1 : Int32)) m else (fX2_isOverlapped_130 v5 v3 m).bind fun (w2 : Int32 × xmm) => if w2.1 = 0 then (fX2_ownWays 10 12 v5 w2.2).bind fun (w4 : Int32 × xmm) => bX2_ways_130_10_12_51 v3 (v4 * w4.1) (v5 + (1 : Int32)) w4.2 else bX2_ways_130_10_12_51 v3 v4 (v5 + (1 : Int32)) w2.2)) = some z) : bX2_ways_130_10_12_51 v3 v4 v5 m = some z := by
  refine xstI ?_
  show xT 19 5 51 [(0, .ref 130), (1, .ref 10), (2, .ref 12), (3, .int v3), (4, .int v4), (5, .int v5)] [] m (some (.int z.1), z.2)
  refine e_iload rfl rfl (xnm_no rfl) ?_
  refine e_iload_n rfl rfl (xnm_no rfl) ?_
  refine e_icmp_gt (t := 103) rfl rfl (xnm_no rfl) (xnm_no rfl) h (fun h => ?_) (fun h => ?_)
  · refine e_iload rfl rfl (xnm_no rfl) ?_
    cases h
    exact e_retI rfl rfl
  · refine e_iload rfl rfl (xnm_no rfl) ?_
    refine e_sipush (x := 256) rfl (by decide) (xnm_no rfl) ?_
    refine e_icmp_ge (t := 103) rfl rfl (xnm_no rfl) (xnm_no rfl) h (fun h => ?_) (fun h => ?_)
    · refine e_iload rfl rfl (xnm_no rfl) ?_
      cases h
      exact e_retI rfl rfl
    · refine e_aload_n rfl rfl rfl (xnm_no rfl) ?_
      refine e_getR (r := 131) rfl rfl rfl rfl rfl (xnm_no rfl) ?_
      refine e_iload rfl rfl (xnm_no rfl) ?_
      obtain ⟨g1, h⟩ := xgd_some h
      refine e_bald rfl (xor2 g1) (xnm_no rfl) ?_
      refine e_if_eq (t := 97) rfl rfl (xnm_no rfl) (xnm_no rfl) h (fun h => ?_) (fun h => ?_)
      · refine e_iinc (y := 1) rfl rfl rfl (by decide) (xnm_no rfl) ?_
        refine e_goto (t := 51) rfl rfl rfl ?_
        exact xlfI h
      · refine e_aload_n rfl rfl rfl (xnm_no rfl) ?_
        refine e_iload rfl rfl (xnm_no rfl) ?_
        refine e_iload_n rfl rfl (xnm_no rfl) ?_
        obtain ⟨w2, hw3, h⟩ := xbd_some h
        refine e_cIV (hc := hw3) (rest := []) rfl rfl rfl rfl rfl rfl rfl rfl (xnm_no rfl) ?_
        refine e_if_ne (t := 97) rfl rfl (xnm_no rfl) (xnm_no rfl) h (fun h => ?_) (fun h => ?_)
        · refine e_iinc (y := 1) rfl rfl rfl (by decide) (xnm_no rfl) ?_
          refine e_goto (t := 51) rfl rfl rfl ?_
          exact xlfI h
        · refine e_iload rfl rfl (xnm_no rfl) ?_
          refine e_aload_n rfl rfl rfl (xnm_no rfl) ?_
          refine e_aload_n rfl rfl rfl (xnm_no rfl) ?_
          refine e_iload rfl rfl (xnm_no rfl) ?_
          obtain ⟨w4, hw5, h⟩ := xbd_some h
          refine e_cIS (hc := hw5) (rest := [.int _]) rfl rfl rfl rfl rfl rfl rfl rfl (xnm_no rfl) ?_
          refine e_imul rfl (xnm_no rfl) ?_
          refine e_istore rfl rfl (xnm_no rfl) ?_
          refine e_iinc (y := 1) rfl rfl rfl (by decide) (xnm_no rfl) ?_
          refine e_goto (t := 51) rfl rfl rfl ?_
          exact xlfI h
set_option maxRecDepth 4000 in
theorem fX0_countSteps_109_i (m : xmm) {z : Int32 × xmm} (h : (some ((m.1 109 4), m)) = some z) : fX0_countSteps_109 m = some z := by
  refine xstI ?_
  show xT 5 0 0 [(0, .ref 109)] [] m (some (.int z.1), z.2)
  refine e_aload_n rfl rfl rfl (xnm_no rfl) ?_
  refine e_getI rfl rfl rfl rfl (xnm_no rfl) ?_
  cases h
  exact e_retI rfl rfl
set_option maxRecDepth 4000 in
theorem fX11_isCrossed_0_i (m : xmm) {z : Int32 × xmm} (h : ((fX1_isOrdered_97 m).bind fun (w1 : Int32 × xmm) => if w1.1 = 0 then some ((0 : Int32), w1.2) else (fX1_isOrdered_103 w1.2).bind fun (w3 : Int32 × xmm) => if w3.1 = 0 then some ((0 : Int32), w3.2) else some ((1 : Int32), w3.2)) = some z) : fX11_isCrossed_0 m = some z := by
  refine xstI ?_
  show xT 150 1 0 [(0, .ref 0)] [] m (some (.int z.1), z.2)
  refine e_aload_n rfl rfl rfl (xnm_no rfl) ?_
  refine e_getR (r := 97) rfl rfl rfl rfl rfl (xnm_no rfl) ?_
  obtain ⟨w1, hw2, h⟩ := xbd_some h
  refine e_cIV (hc := hw2) (rest := []) rfl rfl rfl rfl rfl rfl rfl rfl (xnm_no rfl) ?_
  refine e_if_eq (t := 24) rfl rfl (xnm_no rfl) (xnm_no rfl) h (fun h => ?_) (fun h => ?_)
  · refine e_iconst (x := 0) rfl (by decide) (xnm_no rfl) ?_
    cases h
    exact e_retI rfl (by decide)
  · refine e_aload_n rfl rfl rfl (xnm_no rfl) ?_
    refine e_getR (r := 103) rfl rfl rfl rfl rfl (xnm_no rfl) ?_
    obtain ⟨w3, hw4, h⟩ := xbd_some h
    refine e_cIV (hc := hw4) (rest := []) rfl rfl rfl rfl rfl rfl rfl rfl (xnm_no rfl) ?_
    refine e_if_eq (t := 24) rfl rfl (xnm_no rfl) (xnm_no rfl) h (fun h => ?_) (fun h => ?_)
    · refine e_iconst (x := 0) rfl (by decide) (xnm_no rfl) ?_
      cases h
      exact e_retI rfl (by decide)
    · refine e_iconst (x := 1) rfl (by decide) (xnm_no rfl) ?_
      refine e_goto (t := 25) rfl rfl (xnm_no rfl) ?_
      cases h
      exact e_retI rfl (by decide)
set_option maxRecDepth 4000 in
theorem fX11_network_0_i (v1 : Int32) (m : xmm) {z : Int32 × xmm} (h : ((fX11_study_0 m).bind fun (w1 : xmm) => if v1 = 0 then (fX1_isOrdered_97 w1).bind fun (w4 : Int32 × xmm) => (fX11_bit w4.1 w4.2).bind fun (w6 : Int32 × xmm) => some (w6.1, w6.2) else if v1 = 1 then (fX1_countAll_97 w1).bind fun (w9 : Int32 × xmm) => some (w9.1, w9.2) else if v1 = 2 then (fX1_countOdd_97 w1).bind fun (w12 : Int32 × xmm) => some (w12.1, w12.2) else if v1 = 3 then (fX1_isOrdered_97 w1).bind fun (w15 : Int32 × xmm) => if w15.1 = 0 then some ((0 : Int32), w15.2) else (fX2_ways_130_10_12 w15.2).bind fun (w17 : Int32 × xmm) => some (w17.1, w17.2) else if v1 = 4 then (fX1_isOrdered_97 w1).bind fun (w20 : Int32 × xmm) => if w20.1 = 0 then some ((-2 : Int32), w20.2) else (fX0_countSteps_109 w20.2).bind fun (w22 : Int32 × xmm) => some (w22.1, w22.2) else if v1 = 5 then (fX11_isCrossed_0 w1).bind fun (w25 : Int32 × xmm) => (fX11_bit w25.1 w25.2).bind fun (w27 : Int32 × xmm) => some (w27.1, w27.2) else if v1 = 6 then (fX1_isOrdered_103 w1).bind fun (w30 : Int32 × xmm) => (fX11_bit w30.1 w30.2).bind fun (w32 : Int32 × xmm) => some (w32.1, w32.2) else if v1 = 7 then (fX3_everyPost 10 w1).bind fun (w35 : Int32 × xmm) => (fX9_parts 11 w35.1 w35.2).bind fun (w37 : Int32 × xmm) => some (w37.1, w37.2) else some ((-1 : Int32), w1)) = some z) : fX11_network_0 v1 m = some z := by
  refine xstI ?_
  show xT 130 6 0 [(0, .ref 0), (1, .int v1)] [] m (some (.int z.1), z.2)
  refine e_aload_n rfl rfl rfl (xnm_no rfl) ?_
  obtain ⟨w1, hw2, h⟩ := xbd_some h
  refine e_cVV (hc := hw2) (rest := []) rfl rfl rfl rfl rfl rfl rfl rfl (xnm_no rfl) ?_
  refine e_iload_n rfl rfl (xnm_no rfl) ?_
  by_cases c3 : v1 = 0
  · rw [if_pos c3] at h
    refine e_sw (t := 52) (o := 47) rfl (by decide) (xsw_p c3) rfl (xnm_no rfl) ?_
    refine e_aload_n rfl rfl rfl (xnm_no rfl) ?_
    refine e_getR (r := 97) rfl rfl rfl rfl rfl (xnm_no rfl) ?_
    obtain ⟨w4, hw5, h⟩ := xbd_some h
    refine e_cIV (hc := hw5) (rest := []) rfl rfl rfl rfl rfl rfl rfl rfl (xnm_no rfl) ?_
    obtain ⟨w6, hw7, h⟩ := xbd_some h
    refine e_cIS (hc := hw7) (rest := []) rfl rfl rfl rfl rfl rfl rfl rfl (xnm_no rfl) ?_
    cases h
    exact e_retI rfl rfl
  · rw [if_neg c3] at h
    by_cases c8 : v1 = 1
    · rw [if_pos c8] at h
      refine e_sw (t := 63) (o := 58) rfl (by decide) (xsw_n c3 (xsw_p c8)) rfl (xnm_no rfl) ?_
      refine e_aload_n rfl rfl rfl (xnm_no rfl) ?_
      refine e_getR (r := 97) rfl rfl rfl rfl rfl (xnm_no rfl) ?_
      obtain ⟨w9, hw10, h⟩ := xbd_some h
      refine e_cIV (hc := hw10) (rest := []) rfl rfl rfl rfl rfl rfl rfl rfl (xnm_no rfl) ?_
      cases h
      exact e_retI rfl rfl
    · rw [if_neg c8] at h
      by_cases c11 : v1 = 2
      · rw [if_pos c11] at h
        refine e_sw (t := 71) (o := 66) rfl (by decide) (xsw_n c3 (xsw_n c8 (xsw_p c11))) rfl (xnm_no rfl) ?_
        refine e_aload_n rfl rfl rfl (xnm_no rfl) ?_
        refine e_getR (r := 97) rfl rfl rfl rfl rfl (xnm_no rfl) ?_
        obtain ⟨w12, hw13, h⟩ := xbd_some h
        refine e_cIV (hc := hw13) (rest := []) rfl rfl rfl rfl rfl rfl rfl rfl (xnm_no rfl) ?_
        cases h
        exact e_retI rfl rfl
      · rw [if_neg c11] at h
        by_cases c14 : v1 = 3
        · rw [if_pos c14] at h
          refine e_sw (t := 79) (o := 74) rfl (by decide) (xsw_n c3 (xsw_n c8 (xsw_n c11 (xsw_p c14)))) rfl (xnm_no rfl) ?_
          refine e_aload_n rfl rfl rfl (xnm_no rfl) ?_
          refine e_getR (r := 97) rfl rfl rfl rfl rfl (xnm_no rfl) ?_
          obtain ⟨w15, hw16, h⟩ := xbd_some h
          refine e_cIV (hc := hw16) (rest := []) rfl rfl rfl rfl rfl rfl rfl rfl (xnm_no rfl) ?_
          refine e_if_eq (t := 107) rfl rfl (xnm_no rfl) (xnm_no rfl) h (fun h => ?_) (fun h => ?_)
          · refine e_iconst (x := 0) rfl (by decide) (xnm_no rfl) ?_
            cases h
            exact e_retI rfl rfl
          · refine e_aload_n rfl rfl rfl (xnm_no rfl) ?_
            refine e_getR (r := 130) rfl rfl rfl rfl rfl (xnm_no rfl) ?_
            refine e_aload_n rfl rfl rfl (xnm_no rfl) ?_
            refine e_getR (r := 10) rfl rfl rfl rfl rfl (xnm_no rfl) ?_
            refine e_aload_n rfl rfl rfl (xnm_no rfl) ?_
            refine e_getR (r := 12) rfl rfl rfl rfl rfl (xnm_no rfl) ?_
            obtain ⟨w17, hw18, h⟩ := xbd_some h
            refine e_cIV (hc := hw18) (rest := []) rfl rfl rfl rfl rfl rfl rfl rfl (xnm_no rfl) ?_
            refine e_goto (t := 108) rfl rfl (xnm_no rfl) ?_
            cases h
            exact e_retI rfl rfl
        · rw [if_neg c14] at h
          by_cases c19 : v1 = 4
          · rw [if_pos c19] at h
            refine e_sw (t := 109) (o := 104) rfl (by decide) (xsw_n c3 (xsw_n c8 (xsw_n c11 (xsw_n c14 (xsw_p c19))))) rfl (xnm_no rfl) ?_
            refine e_aload_n rfl rfl rfl (xnm_no rfl) ?_
            refine e_getR (r := 97) rfl rfl rfl rfl rfl (xnm_no rfl) ?_
            obtain ⟨w20, hw21, h⟩ := xbd_some h
            refine e_cIV (hc := hw21) (rest := []) rfl rfl rfl rfl rfl rfl rfl rfl (xnm_no rfl) ?_
            refine e_if_eq (t := 129) rfl rfl (xnm_no rfl) (xnm_no rfl) h (fun h => ?_) (fun h => ?_)
            · refine e_bipush (x := -2) rfl (by decide) (xnm_no rfl) ?_
              cases h
              exact e_retI rfl rfl
            · refine e_aload_n rfl rfl rfl (xnm_no rfl) ?_
              refine e_getR (r := 109) rfl rfl rfl rfl rfl (xnm_no rfl) ?_
              obtain ⟨w22, hw23, h⟩ := xbd_some h
              refine e_cIV (hc := hw23) (rest := []) rfl rfl rfl rfl rfl rfl rfl rfl (xnm_no rfl) ?_
              refine e_goto (t := 131) rfl rfl (xnm_no rfl) ?_
              cases h
              exact e_retI rfl rfl
          · rw [if_neg c19] at h
            by_cases c24 : v1 = 5
            · rw [if_pos c24] at h
              refine e_sw (t := 132) (o := 127) rfl (by decide) (xsw_n c3 (xsw_n c8 (xsw_n c11 (xsw_n c14 (xsw_n c19 (xsw_p c24)))))) rfl (xnm_no rfl) ?_
              refine e_aload_n rfl rfl rfl (xnm_no rfl) ?_
              obtain ⟨w25, hw26, h⟩ := xbd_some h
              refine e_cIV (hc := hw26) (rest := []) rfl rfl rfl rfl rfl rfl rfl rfl (xnm_no rfl) ?_
              obtain ⟨w27, hw28, h⟩ := xbd_some h
              refine e_cIS (hc := hw28) (rest := []) rfl rfl rfl rfl rfl rfl rfl rfl (xnm_no rfl) ?_
              cases h
              exact e_retI rfl rfl
            · rw [if_neg c24] at h
              by_cases c29 : v1 = 6
              · rw [if_pos c29] at h
                refine e_sw (t := 140) (o := 135) rfl (by decide) (xsw_n c3 (xsw_n c8 (xsw_n c11 (xsw_n c14 (xsw_n c19 (xsw_n c24 (xsw_p c29))))))) rfl (xnm_no rfl) ?_
                refine e_aload_n rfl rfl rfl (xnm_no rfl) ?_
                refine e_getR (r := 103) rfl rfl rfl rfl rfl (xnm_no rfl) ?_
                obtain ⟨w30, hw31, h⟩ := xbd_some h
                refine e_cIV (hc := hw31) (rest := []) rfl rfl rfl rfl rfl rfl rfl rfl (xnm_no rfl) ?_
                obtain ⟨w32, hw33, h⟩ := xbd_some h
                refine e_cIS (hc := hw33) (rest := []) rfl rfl rfl rfl rfl rfl rfl rfl (xnm_no rfl) ?_
                cases h
                exact e_retI rfl rfl
              · rw [if_neg c29] at h
                by_cases c34 : v1 = 7
                · rw [if_pos c34] at h
                  refine e_sw (t := 151) (o := 146) rfl (by decide) (xsw_n c3 (xsw_n c8 (xsw_n c11 (xsw_n c14 (xsw_n c19 (xsw_n c24 (xsw_n c29 (xsw_p c34)))))))) rfl (xnm_no rfl) ?_
                  refine e_aload_n rfl rfl rfl (xnm_no rfl) ?_
                  refine e_getR (r := 10) rfl rfl rfl rfl rfl (xnm_no rfl) ?_
                  refine e_getR (r := 11) rfl rfl rfl rfl rfl (xnm_no rfl) ?_
                  refine e_aload_n rfl rfl rfl (xnm_no rfl) ?_
                  refine e_getR (r := 10) rfl rfl rfl rfl rfl (xnm_no rfl) ?_
                  obtain ⟨w35, hw36, h⟩ := xbd_some h
                  refine e_cIV (hc := hw36) (rest := [.ref 11]) rfl rfl rfl rfl rfl rfl rfl rfl (xnm_no rfl) ?_
                  obtain ⟨w37, hw38, h⟩ := xbd_some h
                  refine e_cIS (hc := hw38) (rest := []) rfl rfl rfl rfl rfl rfl rfl rfl (xnm_no rfl) ?_
                  cases h
                  exact e_retI rfl rfl
                · rw [if_neg c34] at h
                  refine e_sw (t := 169) (o := 164) rfl (by decide) (xsw_n c3 (xsw_n c8 (xsw_n c11 (xsw_n c14 (xsw_n c19 (xsw_n c24 (xsw_n c29 (xsw_n c34 xsw_d)))))))) rfl (xnm_no rfl) ?_
                  refine e_iconst (x := -1) rfl (by decide) (xnm_no rfl) ?_
                  cases h
                  exact e_retI rfl rfl
set_option maxRecDepth 4000 in
theorem fX5_countStraight_123_i (m : xmm) {z : Int32 × xmm} (h : (some ((m.1 127 0), m)) = some z) : fX5_countStraight_123 m = some z := by
  refine xstI ?_
  show xT 54 0 0 [(0, .ref 123)] [] m (some (.int z.1), z.2)
  refine e_aload_n rfl rfl rfl (xnm_no rfl) ?_
  refine e_getR (r := 127) rfl rfl rfl rfl rfl (xnm_no rfl) ?_
  refine e_iconst (x := 0) rfl (by decide) (xnm_no rfl) ?_
  refine e_iald rfl (by decide) (xnm_no rfl) ?_
  cases h
  exact e_retI rfl rfl
set_option maxRecDepth 4000 in
theorem fX5_coveredBy_123_i (v1 : Int32) (m : xmm) {z : Int32 × xmm} (h : (bX5_coveredBy_123_4 v1 (0 : Int32) (0 : Int32) m) = some z) : fX5_coveredBy_123 v1 m = some z := by
  refine xstI ?_
  show xT 51 1 0 [(0, .ref 123), (1, .int v1)] [] m (some (.int z.1), z.2)
  refine e_iconst (x := 0) rfl (by decide) (xnm_no rfl) ?_
  refine e_istore_n rfl rfl (xnm_no rfl) ?_
  refine e_iconst (x := 0) rfl (by decide) (xnm_no rfl) ?_
  refine e_istore_n rfl rfl rfl ?_
  exact xlfI h
set_option maxRecDepth 4000 in
theorem bX5_coveredBy_123_4_i (v1 : Int32) (v2 : Int32) (v3 : Int32) (m : xmm) {z : Int32 × xmm} (h : (if (m.1 123 6) ≤ v3 then some (v2, m) else xgd (xinb 8 v1) ((fX11_contains (m.1 124 (v1).toNatClampNeg) v3 m).bind fun (w2 : Int32 × xmm) => if w2.1 = 0 then bX5_coveredBy_123_4 v1 v2 (v3 + (1 : Int32)) w2.2 else xgd (xinb 8 v3) (if ((w2.2.1 124 (v1).toNatClampNeg) &&& (w2.2.1 125 (v3).toNatClampNeg)) = 0 then bX5_coveredBy_123_4 v1 (v2 ||| ((1 : Int32) <<< (v3 &&& 31))) (v3 + (1 : Int32)) w2.2 else bX5_coveredBy_123_4 v1 v2 (v3 + (1 : Int32)) w2.2))) = some z) : bX5_coveredBy_123_4 v1 v2 v3 m = some z := by
  refine xstI ?_
  show xT 51 1 4 [(0, .ref 123), (1, .int v1), (2, .int v2), (3, .int v3)] [] m (some (.int z.1), z.2)
  refine e_iload_n rfl rfl (xnm_no rfl) ?_
  refine e_aload_n rfl rfl rfl (xnm_no rfl) ?_
  refine e_getI rfl rfl rfl rfl (xnm_no rfl) ?_
  refine e_icmp_ge (t := 53) rfl rfl (xnm_no rfl) (xnm_no rfl) h (fun h => ?_) (fun h => ?_)
  · refine e_iload_n rfl rfl (xnm_no rfl) ?_
    cases h
    exact e_retI rfl rfl
  · refine e_aload_n rfl rfl rfl (xnm_no rfl) ?_
    refine e_getR (r := 124) rfl rfl rfl rfl rfl (xnm_no rfl) ?_
    refine e_iload_n rfl rfl (xnm_no rfl) ?_
    obtain ⟨g1, h⟩ := xgd_some h
    refine e_iald rfl g1 (xnm_no rfl) ?_
    refine e_iload_n rfl rfl (xnm_no rfl) ?_
    obtain ⟨w2, hw3, h⟩ := xbd_some h
    refine e_cIS (hc := hw3) (rest := []) rfl rfl rfl rfl rfl rfl rfl rfl (xnm_no rfl) ?_
    refine e_if_eq (t := 47) rfl rfl (xnm_no rfl) (xnm_no rfl) h (fun h => ?_) (fun h => ?_)
    · refine e_iinc (y := 1) rfl rfl rfl (by decide) (xnm_no rfl) ?_
      refine e_goto (t := 4) rfl rfl rfl ?_
      exact xlfI h
    · refine e_aload_n rfl rfl rfl (xnm_no rfl) ?_
      refine e_getR (r := 124) rfl rfl rfl rfl rfl (xnm_no rfl) ?_
      refine e_iload_n rfl rfl (xnm_no rfl) ?_
      refine e_iald rfl g1 (xnm_no rfl) ?_
      refine e_aload_n rfl rfl rfl (xnm_no rfl) ?_
      refine e_getR (r := 125) rfl rfl rfl rfl rfl (xnm_no rfl) ?_
      refine e_iload_n rfl rfl (xnm_no rfl) ?_
      obtain ⟨g4, h⟩ := xgd_some h
      refine e_iald rfl g4 (xnm_no rfl) ?_
      refine e_iand rfl (xnm_no rfl) ?_
      refine e_if_ne (t := 47) rfl rfl (xnm_no rfl) (xnm_no rfl) h (fun h => ?_) (fun h => ?_)
      · refine e_iinc (y := 1) rfl rfl rfl (by decide) (xnm_no rfl) ?_
        refine e_goto (t := 4) rfl rfl rfl ?_
        exact xlfI h
      · refine e_iload_n rfl rfl (xnm_no rfl) ?_
        refine e_iconst (x := 1) rfl (by decide) (xnm_no rfl) ?_
        refine e_iload_n rfl rfl (xnm_no rfl) ?_
        refine e_ishl rfl (xnm_no rfl) ?_
        refine e_ior rfl (xnm_no rfl) ?_
        refine e_istore_n rfl rfl (xnm_no rfl) ?_
        refine e_iinc (y := 1) rfl rfl rfl (by decide) (xnm_no rfl) ?_
        refine e_goto (t := 4) rfl rfl rfl ?_
        exact xlfI h
set_option maxRecDepth 4000 in
theorem fX5_countCovers_123_i (m : xmm) {z : Int32 × xmm} (h : (bX5_countCovers_123_4 (0 : Int32) (0 : Int32) m) = some z) : fX5_countCovers_123 m = some z := by
  refine xstI ?_
  show xT 52 2 0 [(0, .ref 123)] [] m (some (.int z.1), z.2)
  refine e_iconst (x := 0) rfl (by decide) (xnm_no rfl) ?_
  refine e_istore_n rfl rfl (xnm_no rfl) ?_
  refine e_iconst (x := 0) rfl (by decide) (xnm_no rfl) ?_
  refine e_istore_n rfl rfl rfl ?_
  exact xlfI h
set_option maxRecDepth 4000 in
theorem bX5_countCovers_123_4_i (v1 : Int32) (v2 : Int32) (m : xmm) {z : Int32 × xmm} (h : (if (m.1 123 6) ≤ v2 then some (v1, m) else (fX5_coveredBy_123 v2 m).bind fun (w1 : Int32 × xmm) => (fJ6_bitCount w1.1 w1.2).bind fun (w3 : Int32 × xmm) => bX5_countCovers_123_4 (v1 + w3.1) (v2 + (1 : Int32)) w3.2) = some z) : bX5_countCovers_123_4 v1 v2 m = some z := by
  refine xstI ?_
  show xT 52 2 4 [(0, .ref 123), (1, .int v1), (2, .int v2)] [] m (some (.int z.1), z.2)
  refine e_iload_n rfl rfl (xnm_no rfl) ?_
  refine e_aload_n rfl rfl rfl (xnm_no rfl) ?_
  refine e_getI rfl rfl rfl rfl (xnm_no rfl) ?_
  refine e_icmp_ge (t := 29) rfl rfl (xnm_no rfl) (xnm_no rfl) h (fun h => ?_) (fun h => ?_)
  · refine e_iload_n rfl rfl (xnm_no rfl) ?_
    cases h
    exact e_retI rfl rfl
  · refine e_iload_n rfl rfl (xnm_no rfl) ?_
    refine e_aload_n rfl rfl rfl (xnm_no rfl) ?_
    refine e_iload_n rfl rfl (xnm_no rfl) ?_
    obtain ⟨w1, hw2, h⟩ := xbd_some h
    refine e_cIV (hc := hw2) (rest := [.int _]) rfl rfl rfl rfl rfl rfl rfl rfl (xnm_no rfl) ?_
    obtain ⟨w3, hw4, h⟩ := xbd_some h
    refine e_cIS (hc := hw4) (rest := [.int _]) rfl rfl rfl rfl rfl rfl rfl rfl (xnm_no rfl) ?_
    refine e_iadd rfl (xnm_no rfl) ?_
    refine e_istore_n rfl rfl (xnm_no rfl) ?_
    refine e_iinc (y := 1) rfl rfl rfl (by decide) (xnm_no rfl) ?_
    refine e_goto (t := 4) rfl rfl rfl ?_
    exact xlfI h
set_option maxRecDepth 4000 in
theorem fX9_greatestApart_i (v0 : Nat) (v1 : Int32) (m : xmm) {z : Int32 × xmm} (h : (bX9_greatestApart_4 v0 v1 (0 : Int32) (0 : Int32) m) = some z) : fX9_greatestApart v0 v1 m = some z := by
  refine xstI ?_
  show xT 103 3 0 [(0, .ref v0), (1, .int v1)] [] m (some (.int z.1), z.2)
  refine e_iconst (x := 0) rfl (by decide) (xnm_no rfl) ?_
  refine e_istore_n rfl rfl (xnm_no rfl) ?_
  refine e_iconst (x := 0) rfl (by decide) (xnm_no rfl) ?_
  refine e_istore_n rfl rfl rfl ?_
  exact xlfI h
set_option maxRecDepth 4000 in
theorem bX9_greatestApart_4_i (v0 : Nat) (v1 : Int32) (v2 : Int32) (v3 : Int32) (m : xmm) {z : Int32 × xmm} (h : (if v1 < v3 then some (v2, m) else if (256 : Int32) ≤ v3 then some (v2, m) else (fJ6_bitCount v3 m).bind fun (w1 : Int32 × xmm) => (fJ6_bitCount v2 w1.2).bind fun (w3 : Int32 × xmm) => if w1.1 ≤ w3.1 then bX9_greatestApart_4 v0 v1 v2 (v3 + (1 : Int32)) w3.2 else xgd (!(Nat.beq v0 1999)) ((fX9_isApart v0 v3 w3.2).bind fun (w6 : Int32 × xmm) => if w6.1 = 0 then bX9_greatestApart_4 v0 v1 v2 (v3 + (1 : Int32)) w6.2 else bX9_greatestApart_4 v0 v1 v3 (v3 + (1 : Int32)) w6.2)) = some z) : bX9_greatestApart_4 v0 v1 v2 v3 m = some z := by
  refine xstI ?_
  show xT 103 3 4 [(0, .ref v0), (1, .int v1), (2, .int v2), (3, .int v3)] [] m (some (.int z.1), z.2)
  refine e_iload_n rfl rfl (xnm_no rfl) ?_
  refine e_iload_n rfl rfl (xnm_no rfl) ?_
  refine e_icmp_gt (t := 43) rfl rfl (xnm_no rfl) (xnm_no rfl) h (fun h => ?_) (fun h => ?_)
  · refine e_iload_n rfl rfl (xnm_no rfl) ?_
    cases h
    exact e_retI rfl rfl
  · refine e_iload_n rfl rfl (xnm_no rfl) ?_
    refine e_sipush (x := 256) rfl (by decide) (xnm_no rfl) ?_
    refine e_icmp_ge (t := 43) rfl rfl (xnm_no rfl) (xnm_no rfl) h (fun h => ?_) (fun h => ?_)
    · refine e_iload_n rfl rfl (xnm_no rfl) ?_
      cases h
      exact e_retI rfl rfl
    · refine e_iload_n rfl rfl (xnm_no rfl) ?_
      obtain ⟨w1, hw2, h⟩ := xbd_some h
      refine e_cIS (hc := hw2) (rest := []) rfl rfl rfl rfl rfl rfl rfl rfl (xnm_no rfl) ?_
      refine e_iload_n rfl rfl (xnm_no rfl) ?_
      obtain ⟨w3, hw4, h⟩ := xbd_some h
      refine e_cIS (hc := hw4) (rest := [.int _]) rfl rfl rfl rfl rfl rfl rfl rfl (xnm_no rfl) ?_
      refine e_icmp_le (t := 37) rfl rfl (xnm_no rfl) (xnm_no rfl) h (fun h => ?_) (fun h => ?_)
      · refine e_iinc (y := 1) rfl rfl rfl (by decide) (xnm_no rfl) ?_
        refine e_goto (t := 4) rfl rfl rfl ?_
        exact xlfI h
      · obtain ⟨g5, h⟩ := xgd_some h
        refine e_aload_n rfl rfl (xnb g5) (xnm_no rfl) ?_
        refine e_iload_n rfl rfl (xnm_no rfl) ?_
        obtain ⟨w6, hw7, h⟩ := xbd_some h
        refine e_cIS (hc := hw7) (rest := []) rfl rfl rfl rfl rfl rfl rfl rfl (xnm_no rfl) ?_
        refine e_if_eq (t := 37) rfl rfl (xnm_no rfl) (xnm_no rfl) h (fun h => ?_) (fun h => ?_)
        · refine e_iinc (y := 1) rfl rfl rfl (by decide) (xnm_no rfl) ?_
          refine e_goto (t := 4) rfl rfl rfl ?_
          exact xlfI h
        · refine e_iload_n rfl rfl (xnm_no rfl) ?_
          refine e_istore_n rfl rfl (xnm_no rfl) ?_
          refine e_iinc (y := 1) rfl rfl rfl (by decide) (xnm_no rfl) ?_
          refine e_goto (t := 4) rfl rfl rfl ?_
          exact xlfI h
set_option maxRecDepth 4000 in
theorem fX10_clearGroups_132_i (m : xmm) {z : xmm} (h : (bX10_clearGroups_132_2 (0 : Int32) m) = some z) : fX10_clearGroups_132 m = some z := by
  refine xstV ?_
  show xT 110 0 0 [(0, .ref 132)] [] m (none, z)
  refine e_iconst (x := 0) rfl (by decide) (xnm_no rfl) ?_
  refine e_istore_n rfl rfl rfl ?_
  exact xlfV h
set_option maxRecDepth 4000 in
theorem bX10_clearGroups_132_2_i (v1 : Int32) (m : xmm) {z : xmm} (h : (if (8 : Int32) ≤ v1 then some m else xgd (xinb 8 v1) (xlt (xwi m 133 (v1).toNatClampNeg (0 : Int32)) fun (m2 : xmm) => bX10_clearGroups_132_2 (v1 + (1 : Int32)) m2)) = some z) : bX10_clearGroups_132_2 v1 m = some z := by
  refine xstV ?_
  show xT 110 0 2 [(0, .ref 132), (1, .int v1)] [] m (none, z)
  refine e_iload_n rfl rfl (xnm_no rfl) ?_
  refine e_bipush (x := 8) rfl (by decide) (xnm_no rfl) ?_
  refine e_icmp_ge (t := 21) rfl rfl (xnm_no rfl) (xnm_no rfl) h (fun h => ?_) (fun h => ?_)
  · cases h
    exact e_retV rfl rfl
  · refine e_aload_n rfl rfl rfl (xnm_no rfl) ?_
    refine e_getR (r := 133) rfl rfl rfl rfl rfl (xnm_no rfl) ?_
    refine e_iload_n rfl rfl (xnm_no rfl) ?_
    refine e_iconst (x := 0) rfl (by decide) (xnm_no rfl) ?_
    obtain ⟨g1, h⟩ := xgd_some h
    refine e_iast rfl g1 (xnm_no rfl) ?_
    replace h := xlt_b h
    refine e_iinc (y := 1) rfl rfl rfl (by decide) (xnm_no rfl) ?_
    refine e_goto (t := 2) rfl rfl rfl ?_
    exact xlfV h
set_option maxRecDepth 4000 in
theorem fX10_fill_i (v0 : Nat) (v1 : Nat) (v2 : Nat) (v3 : Int32) (v4 : Int32) (v5 : Int32) (m : xmm) {z : Int32 × xmm} (h : (if v4 ≤ v3 then some ((1 : Int32), m) else if v3 < (8 : Int32) then bX10_fill_17 (xrk 111 [.ref v0, .ref v1, .ref v2, .int v3, .int v4, .int v5]) v0 v1 v2 v3 v4 v5 (0 : Int32) m else some ((1 : Int32), m)) = some z) : fX10_fill v0 v1 v2 v3 v4 v5 m = some z := by
  refine xstI ?_
  show xT 111 (xrk 111 [.ref v0, .ref v1, .ref v2, .int v3, .int v4, .int v5]) 0 [(0, .ref v0), (1, .ref v1), (2, .ref v2), (3, .int v3), (4, .int v4), (5, .int v5)] [] m (some (.int z.1), z.2)
  refine e_iload_n rfl rfl (xnm_no rfl) ?_
  refine e_iload rfl rfl (xnm_no rfl) ?_
  refine e_icmp_ge (t := 12) rfl rfl (xnm_no rfl) (xnm_no rfl) h (fun h => ?_) (fun h => ?_)
  · refine e_iconst (x := 1) rfl (by decide) (xnm_no rfl) ?_
    cases h
    exact e_retI rfl (by decide)
  · refine e_iload_n rfl rfl (xnm_no rfl) ?_
    refine e_bipush (x := 8) rfl (by decide) (xnm_no rfl) ?_
    refine e_icmp_lt (t := 14) rfl rfl (xnm_no rfl) (xnm_no rfl) h (fun h => ?_) (fun h => ?_)
    · refine e_iconst (x := 0) rfl (by decide) (xnm_no rfl) ?_
      refine e_istore rfl rfl rfl ?_
      exact xlfI h
    · refine e_iconst (x := 1) rfl (by decide) (xnm_no rfl) ?_
      cases h
      exact e_retI rfl (by decide)
set_option maxRecDepth 4000 in
theorem bX10_fill_17_i (rk : Nat) (v0 : Nat) (v1 : Nat) (v2 : Nat) (v3 : Int32) (v4 : Int32) (v5 : Int32) (v6 : Int32) (m : xmm) {z : Int32 × xmm} (h : (if v5 ≤ v6 then some ((0 : Int32), m) else if (8 : Int32) ≤ v6 then some ((0 : Int32), m) else xgd (!(Nat.beq v1 1999)) (xgd (xia 1 v1 v6) (xgd (!(Nat.beq v0 1999)) (xgd (xia 1 v0 v3) (if ((m.1 v1 (v6).toNatClampNeg) &&& ((m.1 v0 (v3).toNatClampNeg) ^^^ (-1 : Int32))) = 0 then xlt (xwi m v1 (v6).toNatClampNeg ((m.1 v1 (v6).toNatClampNeg) ||| ((1 : Int32) <<< (v3 &&& 31)))) fun (m5 : xmm) => xgd (!(Nat.beq v2 1999)) (xgd (xia 1 v2 v3) (xlt (xwi m5 v2 (v3).toNatClampNeg v6) fun (m8 : xmm) => xgd (xcg 111 rk 111 [.ref v0, .ref v1, .ref v2, .int (v3 + (1 : Int32)), .int v4, .int v5] []) ((fX10_fill v0 v1 v2 (v3 + (1 : Int32)) v4 v5 m8).bind fun (w9 : Int32 × xmm) => if w9.1 = 0 then xlt (xwi w9.2 v1 (v6).toNatClampNeg ((w9.2.1 v1 (v6).toNatClampNeg) &&& (((1 : Int32) <<< (v3 &&& 31)) ^^^ (-1 : Int32)))) fun (m12 : xmm) => bX10_fill_89 rk v0 v1 v2 v3 v4 v5 v6 m12 else some ((1 : Int32), w9.2)))) else bX10_fill_89 rk v0 v1 v2 v3 v4 v5 v6 m))))) = some z) : bX10_fill_17 rk v0 v1 v2 v3 v4 v5 v6 m = some z := by
  refine xstI ?_
  show xT 111 rk 17 [(0, .ref v0), (1, .ref v1), (2, .ref v2), (3, .int v3), (4, .int v4), (5, .int v5), (6, .int v6)] [] m (some (.int z.1), z.2)
  refine e_iload rfl rfl (xnm_no rfl) ?_
  refine e_iload rfl rfl (xnm_no rfl) ?_
  refine e_icmp_ge (t := 104) rfl rfl (xnm_no rfl) (xnm_no rfl) h (fun h => ?_) (fun h => ?_)
  · refine e_iconst (x := 0) rfl (by decide) (xnm_no rfl) ?_
    cases h
    exact e_retI rfl (by decide)
  · refine e_iload rfl rfl (xnm_no rfl) ?_
    refine e_bipush (x := 8) rfl (by decide) (xnm_no rfl) ?_
    refine e_icmp_ge (t := 104) rfl rfl (xnm_no rfl) (xnm_no rfl) h (fun h => ?_) (fun h => ?_)
    · refine e_iconst (x := 0) rfl (by decide) (xnm_no rfl) ?_
      cases h
      exact e_retI rfl (by decide)
    · obtain ⟨g1, h⟩ := xgd_some h
      refine e_aload_n rfl rfl (xnb g1) (xnm_no rfl) ?_
      refine e_iload rfl rfl (xnm_no rfl) ?_
      obtain ⟨g2, h⟩ := xgd_some h
      refine e_iald rfl g2 (xnm_no rfl) ?_
      obtain ⟨g3, h⟩ := xgd_some h
      refine e_aload_n rfl rfl (xnb g3) (xnm_no rfl) ?_
      refine e_iload_n rfl rfl (xnm_no rfl) ?_
      obtain ⟨g4, h⟩ := xgd_some h
      refine e_iald rfl g4 (xnm_no rfl) ?_
      refine e_iconst (x := -1) rfl (by decide) (xnm_no rfl) ?_
      refine e_ixor rfl (xnm_no rfl) ?_
      refine e_iand rfl (xnm_no rfl) ?_
      refine e_if_ne (t := 89) rfl rfl rfl (xnm_no rfl) h (fun h => ?_) (fun h => ?_)
      · exact xlfI h
      · refine e_aload_n rfl rfl (xnb g1) (xnm_no rfl) ?_
        refine e_iload rfl rfl (xnm_no rfl) ?_
        refine e_dup2 rfl rfl rfl (xnm_no rfl) ?_
        refine e_iald rfl g2 (xnm_no rfl) ?_
        refine e_iconst (x := 1) rfl (by decide) (xnm_no rfl) ?_
        refine e_iload_n rfl rfl (xnm_no rfl) ?_
        refine e_ishl rfl (xnm_no rfl) ?_
        refine e_ior rfl (xnm_no rfl) ?_
        refine e_iast rfl g2 (xnm_no rfl) ?_
        replace h := xlt_b h
        obtain ⟨g6, h⟩ := xgd_some h
        refine e_aload_n rfl rfl (xnb g6) (xnm_no rfl) ?_
        refine e_iload_n rfl rfl (xnm_no rfl) ?_
        refine e_iload rfl rfl (xnm_no rfl) ?_
        obtain ⟨g7, h⟩ := xgd_some h
        refine e_iast rfl g7 (xnm_no rfl) ?_
        replace h := xlt_b h
        refine e_aload_n rfl rfl (xnb g3) (xnm_no rfl) ?_
        refine e_aload_n rfl rfl (xnb g1) (xnm_no rfl) ?_
        refine e_aload_n rfl rfl (xnb g6) (xnm_no rfl) ?_
        refine e_iload_n rfl rfl (xnm_no rfl) ?_
        refine e_iconst (x := 1) rfl (by decide) (xnm_no rfl) ?_
        refine e_iadd rfl (xnm_no rfl) ?_
        refine e_iload rfl rfl (xnm_no rfl) ?_
        refine e_iload rfl rfl (xnm_no rfl) ?_
        obtain ⟨g11, h⟩ := xgd_some h
        obtain ⟨w9, hw10, h⟩ := xbd_some h
        refine e_cIS (hc := hw10) (rest := []) rfl rfl rfl rfl rfl rfl g11 rfl (xnm_no rfl) ?_
        refine e_if_eq (t := 77) rfl rfl (xnm_no rfl) (xnm_no rfl) h (fun h => ?_) (fun h => ?_)
        · refine e_aload_n rfl rfl (xnb g1) (xnm_no rfl) ?_
          refine e_iload rfl rfl (xnm_no rfl) ?_
          refine e_dup2 rfl rfl rfl (xnm_no rfl) ?_
          refine e_iald rfl g2 (xnm_no rfl) ?_
          refine e_iconst (x := 1) rfl (by decide) (xnm_no rfl) ?_
          refine e_iload_n rfl rfl (xnm_no rfl) ?_
          refine e_ishl rfl (xnm_no rfl) ?_
          refine e_iconst (x := -1) rfl (by decide) (xnm_no rfl) ?_
          refine e_ixor rfl (xnm_no rfl) ?_
          refine e_iand rfl (xnm_no rfl) ?_
          refine e_iast rfl g2 rfl ?_
          replace h := xlt_b h
          exact xlfI h
        · refine e_iconst (x := 1) rfl (by decide) (xnm_no rfl) ?_
          cases h
          exact e_retI rfl (by decide)
set_option maxRecDepth 4000 in
theorem bX10_fill_89_i (rk : Nat) (v0 : Nat) (v1 : Nat) (v2 : Nat) (v3 : Int32) (v4 : Int32) (v5 : Int32) (v6 : Int32) (m : xmm) {z : Int32 × xmm} (h : (xgd (!(Nat.beq v1 1999)) (xgd (xia 1 v1 v6) (if (m.1 v1 (v6).toNatClampNeg) = 0 then some ((0 : Int32), m) else bX10_fill_17 rk v0 v1 v2 v3 v4 v5 (v6 + (1 : Int32)) m))) = some z) : bX10_fill_89 rk v0 v1 v2 v3 v4 v5 v6 m = some z := by
  refine xstI ?_
  show xT 111 rk 89 [(0, .ref v0), (1, .ref v1), (2, .ref v2), (3, .int v3), (4, .int v4), (5, .int v5), (6, .int v6)] [] m (some (.int z.1), z.2)
  obtain ⟨g1, h⟩ := xgd_some h
  refine e_aload_n rfl rfl (xnb g1) (xnm_no rfl) ?_
  refine e_iload rfl rfl (xnm_no rfl) ?_
  obtain ⟨g2, h⟩ := xgd_some h
  refine e_iald rfl g2 (xnm_no rfl) ?_
  refine e_if_ne (t := 98) rfl rfl (xnm_no rfl) (xnm_no rfl) h (fun h => ?_) (fun h => ?_)
  · refine e_iinc (y := 1) rfl rfl rfl (by decide) (xnm_no rfl) ?_
    refine e_goto (t := 17) rfl rfl rfl ?_
    exact xlfI h
  · refine e_iconst (x := 0) rfl (by decide) (xnm_no rfl) ?_
    cases h
    exact e_retI rfl (by decide)
set_option maxRecDepth 4000 in
theorem fX10_share_132_10_i (m : xmm) {z : Int32 × xmm} (h : (xlt (if (8 : Int32) < (m.1 10 0) then (8 : Int32) else (m.1 10 0)) fun (x1 : Int32) => bX10_share_132_10_12 x1 (0 : Int32) m) = some z) : fX10_share_132_10 m = some z := by
  refine xstI ?_
  show xT 108 10 0 [(0, .ref 132), (1, .ref 10)] [] m (some (.int z.1), z.2)
  refine e_aload_n rfl rfl rfl (xnm_no rfl) ?_
  refine e_getI rfl rfl rfl rfl (xnm_no rfl) ?_
  refine e_bipush (x := 8) rfl (by decide) (xnm_no rfl) ?_
  refine e_min rfl rfl rfl (xnm_no rfl) ?_
  replace h := xlt_b h
  refine e_istore_n rfl rfl (xnm_no rfl) ?_
  refine e_iconst (x := 0) rfl (by decide) (xnm_no rfl) ?_
  refine e_istore_n rfl rfl rfl ?_
  exact xlfI h
set_option maxRecDepth 4000 in
theorem bX10_share_132_10_12_i (v2 : Int32) (v3 : Int32) (m : xmm) {z : Int32 × xmm} (h : (if v2 ≤ v3 then (fX10_clearGroups_132 m).bind fun (w1 : xmm) => xgd (xcg 108 10 111 [.ref 11, .ref 133, .ref 134, .int (0 : Int32), .int v2, .int v2] []) ((fX10_fill 11 133 134 (0 : Int32) v2 v2 w1).bind fun (w3 : Int32 × xmm) => some (v2, w3.2)) else (fX10_clearGroups_132 m).bind fun (w6 : xmm) => xgd (xcg 108 10 111 [.ref 11, .ref 133, .ref 134, .int (0 : Int32), .int v2, .int v3] []) ((fX10_fill 11 133 134 (0 : Int32) v2 v3 w6).bind fun (w8 : Int32 × xmm) => if w8.1 = 0 then bX10_share_132_10_12 v2 (v3 + (1 : Int32)) w8.2 else some (v3, w8.2))) = some z) : bX10_share_132_10_12 v2 v3 m = some z := by
  refine xstI ?_
  show xT 108 10 12 [(0, .ref 132), (1, .ref 10), (2, .int v2), (3, .int v3)] [] m (some (.int z.1), z.2)
  refine e_iload_n rfl rfl (xnm_no rfl) ?_
  refine e_iload_n rfl rfl (xnm_no rfl) ?_
  refine e_icmp_ge (t := 50) rfl rfl (xnm_no rfl) (xnm_no rfl) h (fun h => ?_) (fun h => ?_)
  · refine e_aload_n rfl rfl rfl (xnm_no rfl) ?_
    obtain ⟨w1, hw2, h⟩ := xbd_some h
    refine e_cVV (hc := hw2) (rest := []) rfl rfl rfl rfl rfl rfl rfl rfl (xnm_no rfl) ?_
    refine e_aload_n rfl rfl rfl (xnm_no rfl) ?_
    refine e_getR (r := 11) rfl rfl rfl rfl rfl (xnm_no rfl) ?_
    refine e_aload_n rfl rfl rfl (xnm_no rfl) ?_
    refine e_getR (r := 133) rfl rfl rfl rfl rfl (xnm_no rfl) ?_
    refine e_aload_n rfl rfl rfl (xnm_no rfl) ?_
    refine e_getR (r := 134) rfl rfl rfl rfl rfl (xnm_no rfl) ?_
    refine e_iconst (x := 0) rfl (by decide) (xnm_no rfl) ?_
    refine e_iload_n rfl rfl (xnm_no rfl) ?_
    refine e_iload_n rfl rfl (xnm_no rfl) ?_
    obtain ⟨g5, h⟩ := xgd_some h
    obtain ⟨w3, hw4, h⟩ := xbd_some h
    refine e_cIS (hc := hw4) (rest := []) rfl rfl rfl rfl rfl rfl g5 rfl (xnm_no rfl) ?_
    refine e_pop rfl rfl (xnm_no rfl) ?_
    refine e_iload_n rfl rfl (xnm_no rfl) ?_
    cases h
    exact e_retI rfl rfl
  · refine e_aload_n rfl rfl rfl (xnm_no rfl) ?_
    obtain ⟨w6, hw7, h⟩ := xbd_some h
    refine e_cVV (hc := hw7) (rest := []) rfl rfl rfl rfl rfl rfl rfl rfl (xnm_no rfl) ?_
    refine e_aload_n rfl rfl rfl (xnm_no rfl) ?_
    refine e_getR (r := 11) rfl rfl rfl rfl rfl (xnm_no rfl) ?_
    refine e_aload_n rfl rfl rfl (xnm_no rfl) ?_
    refine e_getR (r := 133) rfl rfl rfl rfl rfl (xnm_no rfl) ?_
    refine e_aload_n rfl rfl rfl (xnm_no rfl) ?_
    refine e_getR (r := 134) rfl rfl rfl rfl rfl (xnm_no rfl) ?_
    refine e_iconst (x := 0) rfl (by decide) (xnm_no rfl) ?_
    refine e_iload_n rfl rfl (xnm_no rfl) ?_
    refine e_iload_n rfl rfl (xnm_no rfl) ?_
    obtain ⟨g10, h⟩ := xgd_some h
    obtain ⟨w8, hw9, h⟩ := xbd_some h
    refine e_cIS (hc := hw9) (rest := []) rfl rfl rfl rfl rfl rfl g10 rfl (xnm_no rfl) ?_
    refine e_if_eq (t := 44) rfl rfl (xnm_no rfl) (xnm_no rfl) h (fun h => ?_) (fun h => ?_)
    · refine e_iinc (y := 1) rfl rfl rfl (by decide) (xnm_no rfl) ?_
      refine e_goto (t := 12) rfl rfl rfl ?_
      exact xlfI h
    · refine e_iload_n rfl rfl (xnm_no rfl) ?_
      cases h
      exact e_retI rfl rfl
set_option maxRecDepth 4000 in
theorem fX5_greatestLevel_123_i (m : xmm) {z : Int32 × xmm} (h : (bX5_greatestLevel_123_4 (-1 : Int32) (0 : Int32) m) = some z) : fX5_greatestLevel_123 m = some z := by
  refine xstI ?_
  show xT 53 1 0 [(0, .ref 123)] [] m (some (.int z.1), z.2)
  refine e_iconst (x := -1) rfl (by decide) (xnm_no rfl) ?_
  refine e_istore_n rfl rfl (xnm_no rfl) ?_
  refine e_iconst (x := 0) rfl (by decide) (xnm_no rfl) ?_
  refine e_istore_n rfl rfl rfl ?_
  exact xlfI h
set_option maxRecDepth 4000 in
theorem bX5_greatestLevel_123_4_i (v1 : Int32) (v2 : Int32) (m : xmm) {z : Int32 × xmm} (h : (if (m.1 123 6) ≤ v2 then some (v1, m) else xgd (xinb 8 v2) (xlt (if v1 < (m.1 126 (v2).toNatClampNeg) then (m.1 126 (v2).toNatClampNeg) else v1) fun (x2 : Int32) => bX5_greatestLevel_123_4 x2 (v2 + (1 : Int32)) m)) = some z) : bX5_greatestLevel_123_4 v1 v2 m = some z := by
  refine xstI ?_
  show xT 53 1 4 [(0, .ref 123), (1, .int v1), (2, .int v2)] [] m (some (.int z.1), z.2)
  refine e_iload_n rfl rfl (xnm_no rfl) ?_
  refine e_aload_n rfl rfl rfl (xnm_no rfl) ?_
  refine e_getI rfl rfl rfl rfl (xnm_no rfl) ?_
  refine e_icmp_ge (t := 29) rfl rfl (xnm_no rfl) (xnm_no rfl) h (fun h => ?_) (fun h => ?_)
  · refine e_iload_n rfl rfl (xnm_no rfl) ?_
    cases h
    exact e_retI rfl rfl
  · refine e_iload_n rfl rfl (xnm_no rfl) ?_
    refine e_aload_n rfl rfl rfl (xnm_no rfl) ?_
    refine e_getR (r := 126) rfl rfl rfl rfl rfl (xnm_no rfl) ?_
    refine e_iload_n rfl rfl (xnm_no rfl) ?_
    obtain ⟨g1, h⟩ := xgd_some h
    refine e_iald rfl g1 (xnm_no rfl) ?_
    refine e_max rfl rfl rfl (xnm_no rfl) ?_
    replace h := xlt_b h
    refine e_istore_n rfl rfl (xnm_no rfl) ?_
    refine e_iinc (y := 1) rfl rfl rfl (by decide) (xnm_no rfl) ?_
    refine e_goto (t := 4) rfl rfl rfl ?_
    exact xlfI h
set_option maxRecDepth 4000 in
theorem fX5_isDown_123_i (v1 : Int32) (m : xmm) {z : Int32 × xmm} (h : (bX5_isDown_123_2 v1 (0 : Int32) m) = some z) : fX5_isDown_123 v1 m = some z := by
  refine xstI ?_
  show xT 58 1 0 [(0, .ref 123), (1, .int v1)] [] m (some (.int z.1), z.2)
  refine e_iconst (x := 0) rfl (by decide) (xnm_no rfl) ?_
  refine e_istore_n rfl rfl rfl ?_
  exact xlfI h
set_option maxRecDepth 4000 in
theorem bX5_isDown_123_2_i (v1 : Int32) (v2 : Int32) (m : xmm) {z : Int32 × xmm} (h : (if (m.1 123 6) ≤ v2 then some ((1 : Int32), m) else (fX11_contains v1 v2 m).bind fun (w1 : Int32 × xmm) => if w1.1 = 0 then bX5_isDown_123_2 v1 (v2 + (1 : Int32)) w1.2 else xgd (xinb 8 v2) (if ((w1.2.1 125 (v2).toNatClampNeg) &&& (v1 ^^^ (-1 : Int32))) = 0 then bX5_isDown_123_2 v1 (v2 + (1 : Int32)) w1.2 else some ((0 : Int32), w1.2))) = some z) : bX5_isDown_123_2 v1 v2 m = some z := by
  refine xstI ?_
  show xT 58 1 2 [(0, .ref 123), (1, .int v1), (2, .int v2)] [] m (some (.int z.1), z.2)
  refine e_iload_n rfl rfl (xnm_no rfl) ?_
  refine e_aload_n rfl rfl rfl (xnm_no rfl) ?_
  refine e_getI rfl rfl rfl rfl (xnm_no rfl) ?_
  refine e_icmp_ge (t := 39) rfl rfl (xnm_no rfl) (xnm_no rfl) h (fun h => ?_) (fun h => ?_)
  · refine e_iconst (x := 1) rfl (by decide) (xnm_no rfl) ?_
    cases h
    exact e_retI rfl (by decide)
  · refine e_iload_n rfl rfl (xnm_no rfl) ?_
    refine e_iload_n rfl rfl (xnm_no rfl) ?_
    obtain ⟨w1, hw2, h⟩ := xbd_some h
    refine e_cIS (hc := hw2) (rest := []) rfl rfl rfl rfl rfl rfl rfl rfl (xnm_no rfl) ?_
    refine e_if_eq (t := 33) rfl rfl (xnm_no rfl) (xnm_no rfl) h (fun h => ?_) (fun h => ?_)
    · refine e_iinc (y := 1) rfl rfl rfl (by decide) (xnm_no rfl) ?_
      refine e_goto (t := 2) rfl rfl rfl ?_
      exact xlfI h
    · refine e_aload_n rfl rfl rfl (xnm_no rfl) ?_
      refine e_getR (r := 125) rfl rfl rfl rfl rfl (xnm_no rfl) ?_
      refine e_iload_n rfl rfl (xnm_no rfl) ?_
      obtain ⟨g3, h⟩ := xgd_some h
      refine e_iald rfl g3 (xnm_no rfl) ?_
      refine e_iload_n rfl rfl (xnm_no rfl) ?_
      refine e_iconst (x := -1) rfl (by decide) (xnm_no rfl) ?_
      refine e_ixor rfl (xnm_no rfl) ?_
      refine e_iand rfl (xnm_no rfl) ?_
      refine e_if_eq (t := 33) rfl rfl (xnm_no rfl) (xnm_no rfl) h (fun h => ?_) (fun h => ?_)
      · refine e_iinc (y := 1) rfl rfl rfl (by decide) (xnm_no rfl) ?_
        refine e_goto (t := 2) rfl rfl rfl ?_
        exact xlfI h
      · refine e_iconst (x := 0) rfl (by decide) (xnm_no rfl) ?_
        cases h
        exact e_retI rfl (by decide)
set_option maxRecDepth 4000 in
theorem fX5_countDown_123_i (m : xmm) {z : Int32 × xmm} (h : (bX5_countDown_123_4 (0 : Int32) (0 : Int32) m) = some z) : fX5_countDown_123 m = some z := by
  refine xstI ?_
  show xT 57 2 0 [(0, .ref 123)] [] m (some (.int z.1), z.2)
  refine e_iconst (x := 0) rfl (by decide) (xnm_no rfl) ?_
  refine e_istore_n rfl rfl (xnm_no rfl) ?_
  refine e_iconst (x := 0) rfl (by decide) (xnm_no rfl) ?_
  refine e_istore_n rfl rfl rfl ?_
  exact xlfI h
set_option maxRecDepth 4000 in
theorem bX5_countDown_123_4_i (v1 : Int32) (v2 : Int32) (m : xmm) {z : Int32 × xmm} (h : (if ((1 : Int32) <<< ((m.1 123 6) &&& 31)) ≤ v2 then some (v1, m) else (fX5_isDown_123 v2 m).bind fun (w1 : Int32 × xmm) => if w1.1 = 0 then bX5_countDown_123_4 v1 (v2 + (1 : Int32)) w1.2 else bX5_countDown_123_4 (v1 + (1 : Int32)) (v2 + (1 : Int32)) w1.2) = some z) : bX5_countDown_123_4 v1 v2 m = some z := by
  refine xstI ?_
  show xT 57 2 4 [(0, .ref 123), (1, .int v1), (2, .int v2)] [] m (some (.int z.1), z.2)
  refine e_iload_n rfl rfl (xnm_no rfl) ?_
  refine e_iconst (x := 1) rfl (by decide) (xnm_no rfl) ?_
  refine e_aload_n rfl rfl rfl (xnm_no rfl) ?_
  refine e_getI rfl rfl rfl rfl (xnm_no rfl) ?_
  refine e_ishl rfl (xnm_no rfl) ?_
  refine e_icmp_ge (t := 31) rfl rfl (xnm_no rfl) (xnm_no rfl) h (fun h => ?_) (fun h => ?_)
  · refine e_iload_n rfl rfl (xnm_no rfl) ?_
    cases h
    exact e_retI rfl rfl
  · refine e_aload_n rfl rfl rfl (xnm_no rfl) ?_
    refine e_iload_n rfl rfl (xnm_no rfl) ?_
    obtain ⟨w1, hw2, h⟩ := xbd_some h
    refine e_cIV (hc := hw2) (rest := []) rfl rfl rfl rfl rfl rfl rfl rfl (xnm_no rfl) ?_
    refine e_if_eq (t := 25) rfl rfl (xnm_no rfl) (xnm_no rfl) h (fun h => ?_) (fun h => ?_)
    · refine e_iinc (y := 1) rfl rfl rfl (by decide) (xnm_no rfl) ?_
      refine e_goto (t := 4) rfl rfl rfl ?_
      exact xlfI h
    · refine e_iinc (y := 1) rfl rfl rfl (by decide) (xnm_no rfl) ?_
      refine e_iinc (y := 1) rfl rfl rfl (by decide) (xnm_no rfl) ?_
      refine e_goto (t := 4) rfl rfl rfl ?_
      exact xlfI h
set_option maxRecDepth 4000 in
theorem fX5_jumpCell_i (v0 : Int32) (v1 : Int32) (m : xmm) {z : Int32 × xmm} (h : (some (((v0 * (8 : Int32)) + v1), m)) = some z) : fX5_jumpCell v0 v1 m = some z := by
  refine xstI ?_
  show xT 62 0 0 [(0, .int v0), (1, .int v1)] [] m (some (.int z.1), z.2)
  refine e_iload_n rfl rfl (xnm_no rfl) ?_
  refine e_bipush (x := 8) rfl (by decide) (xnm_no rfl) ?_
  refine e_imul rfl (xnm_no rfl) ?_
  refine e_iload_n rfl rfl (xnm_no rfl) ?_
  refine e_iadd rfl (xnm_no rfl) ?_
  cases h
  exact e_retI rfl rfl
set_option maxRecDepth 4000 in
theorem fX5_isUnder_123_i (v1 : Int32) (v2 : Int32) (m : xmm) {z : Int32 × xmm} (h : (xgd (xinb 8 v1) ((fX11_contains (m.1 124 (v1).toNatClampNeg) v2 m).bind fun (w2 : Int32 × xmm) => xgd (xz01 w2.1) (some (w2.1, w2.2)))) = some z) : fX5_isUnder_123 v1 v2 m = some z := by
  refine xstI ?_
  show xT 47 1 0 [(0, .ref 123), (1, .int v1), (2, .int v2)] [] m (some (.int z.1), z.2)
  refine e_aload_n rfl rfl rfl (xnm_no rfl) ?_
  refine e_getR (r := 124) rfl rfl rfl rfl rfl (xnm_no rfl) ?_
  refine e_iload_n rfl rfl (xnm_no rfl) ?_
  obtain ⟨g1, h⟩ := xgd_some h
  refine e_iald rfl g1 (xnm_no rfl) ?_
  refine e_iload_n rfl rfl (xnm_no rfl) ?_
  obtain ⟨w2, hw3, h⟩ := xbd_some h
  refine e_cIS (hc := hw3) (rest := []) rfl rfl rfl rfl rfl rfl rfl rfl (xnm_no rfl) ?_
  obtain ⟨g4, h⟩ := xgd_some h
  cases h
  exact e_retI rfl g4
set_option maxRecDepth 4000 in
theorem fX5_jumpOn_123_i (v1 : Int32) (m : xmm) {z : xmm} (h : (bX5_jumpOn_123_2 v1 (0 : Int32) m) = some z) : fX5_jumpOn_123 v1 m = some z := by
  refine xstV ?_
  show xT 63 2 0 [(0, .ref 123), (1, .int v1)] [] m (none, z)
  refine e_iconst (x := 0) rfl (by decide) (xnm_no rfl) ?_
  refine e_istore_n rfl rfl rfl ?_
  exact xlfV h
set_option maxRecDepth 4000 in
theorem bX5_jumpOn_123_2_i (v1 : Int32) (v2 : Int32) (m : xmm) {z : xmm} (h : (if (m.1 123 6) ≤ v2 then some m else (fX5_jumpCell v1 v2 m).bind fun (w1 : Int32 × xmm) => xgd (xinb 2048 w1.1) (bX5_jumpOn_123_24 v1 v2 (w1.2.1 129 (w1.1).toNatClampNeg) (0 : Int32) w1.2)) = some z) : bX5_jumpOn_123_2 v1 v2 m = some z := by
  refine xstV ?_
  show xT 63 2 2 [(0, .ref 123), (1, .int v1), (2, .int v2)] [] m (none, z)
  refine e_iload_n rfl rfl (xnm_no rfl) ?_
  refine e_aload_n rfl rfl rfl (xnm_no rfl) ?_
  refine e_getI rfl rfl rfl rfl (xnm_no rfl) ?_
  refine e_icmp_ge (t := 112) rfl rfl (xnm_no rfl) (xnm_no rfl) h (fun h => ?_) (fun h => ?_)
  · cases h
    exact e_retV rfl rfl
  · refine e_aload_n rfl rfl rfl (xnm_no rfl) ?_
    refine e_getR (r := 129) rfl rfl rfl rfl rfl (xnm_no rfl) ?_
    refine e_iload_n rfl rfl (xnm_no rfl) ?_
    refine e_iload_n rfl rfl (xnm_no rfl) ?_
    obtain ⟨w1, hw2, h⟩ := xbd_some h
    refine e_cIS (hc := hw2) (rest := [.ref 129]) rfl rfl rfl rfl rfl rfl rfl rfl (xnm_no rfl) ?_
    obtain ⟨g3, h⟩ := xgd_some h
    refine e_iald rfl g3 (xnm_no rfl) ?_
    refine e_istore_n rfl rfl (xnm_no rfl) ?_
    refine e_iconst (x := 0) rfl (by decide) (xnm_no rfl) ?_
    refine e_istore rfl rfl rfl ?_
    exact xlfV h
set_option maxRecDepth 4000 in
theorem bX5_jumpOn_123_24_i (v1 : Int32) (v2 : Int32) (v3 : Int32) (v4 : Int32) (m : xmm) {z : xmm} (h : (if (m.1 123 6) ≤ v4 then bX5_jumpOn_123_2 v1 (v2 + (1 : Int32)) m else if (1000 : Int32) ≤ v3 then bX5_jumpOn_123_2 v1 (v2 + (1 : Int32)) m else (fX5_isNext_123 v1 v4 m).bind fun (w1 : Int32 × xmm) => if w1.1 = 0 then bX5_jumpOn_123_24 v1 v2 v3 (v4 + (1 : Int32)) w1.2 else (fX5_jumpCell (v1 ||| ((1 : Int32) <<< (v4 &&& 31))) v4 w1.2).bind fun (w3 : Int32 × xmm) => xgd (xinb 2048 w3.1) ((fX5_isUnder_123 v2 v4 w3.2).bind fun (w6 : Int32 × xmm) => if w6.1 = 0 then bX5_jumpOn_123_92 v1 v2 v3 v4 w3.1 (w3.2.1 129 (w3.1).toNatClampNeg) v3 (1 : Int32) w6.2 else bX5_jumpOn_123_92 v1 v2 v3 v4 w3.1 (w3.2.1 129 (w3.1).toNatClampNeg) v3 (0 : Int32) w6.2)) = some z) : bX5_jumpOn_123_24 v1 v2 v3 v4 m = some z := by
  refine xstV ?_
  show xT 63 2 24 [(0, .ref 123), (1, .int v1), (2, .int v2), (3, .int v3), (4, .int v4)] [] m (none, z)
  refine e_iload rfl rfl (xnm_no rfl) ?_
  refine e_aload_n rfl rfl rfl (xnm_no rfl) ?_
  refine e_getI rfl rfl rfl rfl (xnm_no rfl) ?_
  refine e_icmp_ge (t := 106) rfl rfl (xnm_no rfl) (xnm_no rfl) h (fun h => ?_) (fun h => ?_)
  · refine e_iinc (y := 1) rfl rfl rfl (by decide) (xnm_no rfl) ?_
    refine e_goto (t := 2) rfl rfl rfl ?_
    exact xlfV h
  · refine e_iload_n rfl rfl (xnm_no rfl) ?_
    refine e_sipush (x := 1000) rfl (by decide) (xnm_no rfl) ?_
    refine e_icmp_ge (t := 106) rfl rfl (xnm_no rfl) (xnm_no rfl) h (fun h => ?_) (fun h => ?_)
    · refine e_iinc (y := 1) rfl rfl rfl (by decide) (xnm_no rfl) ?_
      refine e_goto (t := 2) rfl rfl rfl ?_
      exact xlfV h
    · refine e_aload_n rfl rfl rfl (xnm_no rfl) ?_
      refine e_iload_n rfl rfl (xnm_no rfl) ?_
      refine e_iload rfl rfl (xnm_no rfl) ?_
      obtain ⟨w1, hw2, h⟩ := xbd_some h
      refine e_cIV (hc := hw2) (rest := []) rfl rfl rfl rfl rfl rfl rfl rfl (xnm_no rfl) ?_
      refine e_if_eq (t := 100) rfl rfl (xnm_no rfl) (xnm_no rfl) h (fun h => ?_) (fun h => ?_)
      · refine e_iinc (y := 1) rfl rfl rfl (by decide) (xnm_no rfl) ?_
        refine e_goto (t := 24) rfl rfl rfl ?_
        exact xlfV h
      · refine e_iload_n rfl rfl (xnm_no rfl) ?_
        refine e_iconst (x := 1) rfl (by decide) (xnm_no rfl) ?_
        refine e_iload rfl rfl (xnm_no rfl) ?_
        refine e_ishl rfl (xnm_no rfl) ?_
        refine e_ior rfl (xnm_no rfl) ?_
        refine e_iload rfl rfl (xnm_no rfl) ?_
        obtain ⟨w3, hw4, h⟩ := xbd_some h
        refine e_cIS (hc := hw4) (rest := []) rfl rfl rfl rfl rfl rfl rfl rfl (xnm_no rfl) ?_
        refine e_istore rfl rfl (xnm_no rfl) ?_
        refine e_aload_n rfl rfl rfl (xnm_no rfl) ?_
        refine e_getR (r := 129) rfl rfl rfl rfl rfl (xnm_no rfl) ?_
        refine e_iload rfl rfl (xnm_no rfl) ?_
        refine e_aload_n rfl rfl rfl (xnm_no rfl) ?_
        refine e_getR (r := 129) rfl rfl rfl rfl rfl (xnm_no rfl) ?_
        refine e_iload rfl rfl (xnm_no rfl) ?_
        obtain ⟨g5, h⟩ := xgd_some h
        refine e_iald rfl g5 (xnm_no rfl) ?_
        refine e_iload_n rfl rfl (xnm_no rfl) ?_
        refine e_aload_n rfl rfl rfl (xnm_no rfl) ?_
        refine e_iload_n rfl rfl (xnm_no rfl) ?_
        refine e_iload rfl rfl (xnm_no rfl) ?_
        obtain ⟨w6, hw7, h⟩ := xbd_some h
        refine e_cIV (hc := hw7) (rest := [.int _, .int _, .int _, .ref 129]) rfl rfl rfl rfl rfl rfl rfl rfl (xnm_no rfl) ?_
        refine e_if_ne (t := 91) rfl rfl (xnm_no rfl) (xnm_no rfl) h (fun h => ?_) (fun h => ?_)
        · refine e_iconst (x := 0) rfl (by decide) rfl ?_
          exact xlfV h
        · refine e_iconst (x := 1) rfl (by decide) (xnm_no rfl) ?_
          refine e_goto (t := 92) rfl rfl rfl ?_
          exact xlfV h
set_option maxRecDepth 4000 in
theorem bX5_jumpOn_123_92_i (v1 : Int32) (v2 : Int32) (v3 : Int32) (v4 : Int32) (s1 : Int32) (s2 : Int32) (s3 : Int32) (s4 : Int32) (m : xmm) {z : xmm} (h : ((fX11_bit s4 m).bind fun (w1 : Int32 × xmm) => xgd (xinb 2048 s1) (xlt (xwi w1.2 129 (s1).toNatClampNeg (if (s3 + w1.1) < s2 then (s3 + w1.1) else s2)) fun (m4 : xmm) => bX5_jumpOn_123_24 v1 v2 v3 (v4 + (1 : Int32)) m4)) = some z) : bX5_jumpOn_123_92 v1 v2 v3 v4 s1 s2 s3 s4 m = some z := by
  refine xstV ?_
  show xT 63 2 92 [(0, .ref 123), (1, .int v1), (2, .int v2), (3, .int v3), (4, .int v4)] [.int s4, .int s3, .int s2, .int s1, .ref 129] m (none, z)
  obtain ⟨w1, hw2, h⟩ := xbd_some h
  refine e_cIS (hc := hw2) (rest := [.int _, .int _, .int _, .ref 129]) rfl rfl rfl rfl rfl rfl rfl rfl (xnm_no rfl) ?_
  refine e_iadd rfl (xnm_no rfl) ?_
  refine e_min rfl rfl rfl (xnm_no rfl) ?_
  obtain ⟨g3, h⟩ := xgd_some h
  refine e_iast rfl g3 (xnm_no rfl) ?_
  replace h := xlt_b h
  refine e_iinc (y := 1) rfl rfl rfl (by decide) (xnm_no rfl) ?_
  refine e_goto (t := 24) rfl rfl rfl ?_
  exact xlfV h
set_option maxRecDepth 4000 in
theorem fX5_fewestJumps_123_i (m : xmm) {z : Int32 × xmm} (h : (bX5_fewestJumps_123_10 ((8 : Int32) <<< ((m.1 123 6) &&& 31)) (0 : Int32) m) = some z) : fX5_fewestJumps_123 m = some z := by
  refine xstI ?_
  show xT 61 3 0 [(0, .ref 123)] [] m (some (.int z.1), z.2)
  refine e_bipush (x := 8) rfl (by decide) (xnm_no rfl) ?_
  refine e_aload_n rfl rfl rfl (xnm_no rfl) ?_
  refine e_getI rfl rfl rfl rfl (xnm_no rfl) ?_
  refine e_ishl rfl (xnm_no rfl) ?_
  refine e_istore_n rfl rfl (xnm_no rfl) ?_
  refine e_iconst (x := 0) rfl (by decide) (xnm_no rfl) ?_
  refine e_istore_n rfl rfl rfl ?_
  exact xlfI h
set_option maxRecDepth 4000 in
theorem bX5_fewestJumps_123_10_i (v1 : Int32) (v2 : Int32) (m : xmm) {z : Int32 × xmm} (h : (if v1 ≤ v2 then bX5_fewestJumps_123_41 (0 : Int32) m else if (2048 : Int32) ≤ v2 then bX5_fewestJumps_123_41 (0 : Int32) m else xgd (xinb 2048 v2) (xlt (xwi m 129 (v2).toNatClampNeg (1000 : Int32)) fun (m2 : xmm) => bX5_fewestJumps_123_10 v1 (v2 + (1 : Int32)) m2)) = some z) : bX5_fewestJumps_123_10 v1 v2 m = some z := by
  refine xstI ?_
  show xT 61 3 10 [(0, .ref 123), (1, .int v1), (2, .int v2)] [] m (some (.int z.1), z.2)
  refine e_iload_n rfl rfl (xnm_no rfl) ?_
  refine e_iload_n rfl rfl (xnm_no rfl) ?_
  refine e_icmp_ge (t := 39) rfl rfl (xnm_no rfl) (xnm_no rfl) h (fun h => ?_) (fun h => ?_)
  · refine e_iconst (x := 0) rfl (by decide) (xnm_no rfl) ?_
    refine e_istore_n rfl rfl rfl ?_
    exact xlfI h
  · refine e_iload_n rfl rfl (xnm_no rfl) ?_
    refine e_aload_n rfl rfl rfl (xnm_no rfl) ?_
    refine e_getR (r := 129) rfl rfl rfl rfl rfl (xnm_no rfl) ?_
    refine e_alen (v := 2048) rfl rfl (xnm_no rfl) ?_
    refine e_icmp_ge (t := 39) rfl rfl (xnm_no rfl) (xnm_no rfl) h (fun h => ?_) (fun h => ?_)
    · refine e_iconst (x := 0) rfl (by decide) (xnm_no rfl) ?_
      refine e_istore_n rfl rfl rfl ?_
      exact xlfI h
    · refine e_aload_n rfl rfl rfl (xnm_no rfl) ?_
      refine e_getR (r := 129) rfl rfl rfl rfl rfl (xnm_no rfl) ?_
      refine e_iload_n rfl rfl (xnm_no rfl) ?_
      refine e_sipush (x := 1000) rfl (by decide) (xnm_no rfl) ?_
      obtain ⟨g1, h⟩ := xgd_some h
      refine e_iast rfl g1 (xnm_no rfl) ?_
      replace h := xlt_b h
      refine e_iinc (y := 1) rfl rfl rfl (by decide) (xnm_no rfl) ?_
      refine e_goto (t := 10) rfl rfl rfl ?_
      exact xlfI h
set_option maxRecDepth 4000 in
theorem bX5_fewestJumps_123_41_i (v2 : Int32) (m : xmm) {z : Int32 × xmm} (h : (if (m.1 123 6) ≤ v2 then bX5_fewestJumps_123_88 (((1 : Int32) <<< ((m.1 123 6) &&& 31)) - (1 : Int32)) (0 : Int32) m else (fX5_isNext_123 (0 : Int32) v2 m).bind fun (w1 : Int32 × xmm) => if w1.1 = 0 then bX5_fewestJumps_123_41 (v2 + (1 : Int32)) w1.2 else (fX5_jumpCell ((1 : Int32) <<< (v2 &&& 31)) v2 w1.2).bind fun (w3 : Int32 × xmm) => xgd (xinb 2048 w3.1) (xlt (xwi w3.2 129 (w3.1).toNatClampNeg (0 : Int32)) fun (m6 : xmm) => bX5_fewestJumps_123_41 (v2 + (1 : Int32)) m6)) = some z) : bX5_fewestJumps_123_41 v2 m = some z := by
  refine xstI ?_
  show xT 61 3 41 [(0, .ref 123), (2, .int v2)] [] m (some (.int z.1), z.2)
  refine e_iload_n rfl rfl (xnm_no rfl) ?_
  refine e_aload_n rfl rfl rfl (xnm_no rfl) ?_
  refine e_getI rfl rfl rfl rfl (xnm_no rfl) ?_
  refine e_icmp_ge (t := 77) rfl rfl (xnm_no rfl) (xnm_no rfl) h (fun h => ?_) (fun h => ?_)
  · refine e_iconst (x := 1) rfl (by decide) (xnm_no rfl) ?_
    refine e_aload_n rfl rfl rfl (xnm_no rfl) ?_
    refine e_getI rfl rfl rfl rfl (xnm_no rfl) ?_
    refine e_ishl rfl (xnm_no rfl) ?_
    refine e_iconst (x := 1) rfl (by decide) (xnm_no rfl) ?_
    refine e_isub rfl (xnm_no rfl) ?_
    refine e_istore_n rfl rfl (xnm_no rfl) ?_
    refine e_iconst (x := 0) rfl (by decide) (xnm_no rfl) ?_
    refine e_istore_n rfl rfl rfl ?_
    exact xlfI h
  · refine e_aload_n rfl rfl rfl (xnm_no rfl) ?_
    refine e_iconst (x := 0) rfl (by decide) (xnm_no rfl) ?_
    refine e_iload_n rfl rfl (xnm_no rfl) ?_
    obtain ⟨w1, hw2, h⟩ := xbd_some h
    refine e_cIV (hc := hw2) (rest := []) rfl rfl rfl rfl rfl rfl rfl rfl (xnm_no rfl) ?_
    refine e_if_eq (t := 71) rfl rfl (xnm_no rfl) (xnm_no rfl) h (fun h => ?_) (fun h => ?_)
    · refine e_iinc (y := 1) rfl rfl rfl (by decide) (xnm_no rfl) ?_
      refine e_goto (t := 41) rfl rfl rfl ?_
      exact xlfI h
    · refine e_aload_n rfl rfl rfl (xnm_no rfl) ?_
      refine e_getR (r := 129) rfl rfl rfl rfl rfl (xnm_no rfl) ?_
      refine e_iconst (x := 1) rfl (by decide) (xnm_no rfl) ?_
      refine e_iload_n rfl rfl (xnm_no rfl) ?_
      refine e_ishl rfl (xnm_no rfl) ?_
      refine e_iload_n rfl rfl (xnm_no rfl) ?_
      obtain ⟨w3, hw4, h⟩ := xbd_some h
      refine e_cIS (hc := hw4) (rest := [.ref 129]) rfl rfl rfl rfl rfl rfl rfl rfl (xnm_no rfl) ?_
      refine e_iconst (x := 0) rfl (by decide) (xnm_no rfl) ?_
      obtain ⟨g5, h⟩ := xgd_some h
      refine e_iast rfl g5 (xnm_no rfl) ?_
      replace h := xlt_b h
      refine e_iinc (y := 1) rfl rfl rfl (by decide) (xnm_no rfl) ?_
      refine e_goto (t := 41) rfl rfl rfl ?_
      exact xlfI h
set_option maxRecDepth 4000 in
theorem bX5_fewestJumps_123_88_i (v2 : Int32) (v3 : Int32) (m : xmm) {z : Int32 × xmm} (h : (if v2 ≤ v3 then if (m.1 123 6) = 0 then bX5_fewestJumps_123_122 v2 (0 : Int32) (0 : Int32) m else bX5_fewestJumps_123_122 v2 (1000 : Int32) (0 : Int32) m else (fX5_jumpOn_123 v3 m).bind fun (w1 : xmm) => bX5_fewestJumps_123_88 v2 (v3 + (1 : Int32)) w1) = some z) : bX5_fewestJumps_123_88 v2 v3 m = some z := by
  refine xstI ?_
  show xT 61 3 88 [(0, .ref 123), (2, .int v2), (3, .int v3)] [] m (some (.int z.1), z.2)
  refine e_iload_n rfl rfl (xnm_no rfl) ?_
  refine e_iload_n rfl rfl (xnm_no rfl) ?_
  refine e_icmp_ge (t := 104) rfl rfl (xnm_no rfl) (xnm_no rfl) h (fun h => ?_) (fun h => ?_)
  · refine e_aload_n rfl rfl rfl (xnm_no rfl) ?_
    refine e_getI rfl rfl rfl rfl (xnm_no rfl) ?_
    refine e_if_ne (t := 115) rfl rfl (xnm_no rfl) (xnm_no rfl) h (fun h => ?_) (fun h => ?_)
    · refine e_sipush (x := 1000) rfl (by decide) (xnm_no rfl) ?_
      refine e_istore_n rfl rfl (xnm_no rfl) ?_
      refine e_iconst (x := 0) rfl (by decide) (xnm_no rfl) ?_
      refine e_istore rfl rfl rfl ?_
      exact xlfI h
    · refine e_iconst (x := 0) rfl (by decide) (xnm_no rfl) ?_
      refine e_goto (t := 118) rfl rfl (xnm_no rfl) ?_
      refine e_istore_n rfl rfl (xnm_no rfl) ?_
      refine e_iconst (x := 0) rfl (by decide) (xnm_no rfl) ?_
      refine e_istore rfl rfl rfl ?_
      exact xlfI h
  · refine e_aload_n rfl rfl rfl (xnm_no rfl) ?_
    refine e_iload_n rfl rfl (xnm_no rfl) ?_
    obtain ⟨w1, hw2, h⟩ := xbd_some h
    refine e_cVV (hc := hw2) (rest := []) rfl rfl rfl rfl rfl rfl rfl rfl (xnm_no rfl) ?_
    refine e_iinc (y := 1) rfl rfl rfl (by decide) (xnm_no rfl) ?_
    refine e_goto (t := 88) rfl rfl rfl ?_
    exact xlfI h
set_option maxRecDepth 4000 in
theorem bX5_fewestJumps_123_122_i (v2 : Int32) (v3 : Int32) (v4 : Int32) (m : xmm) {z : Int32 × xmm} (h : (if (m.1 123 6) ≤ v4 then some (v3, m) else (fX5_jumpCell v2 v4 m).bind fun (w1 : Int32 × xmm) => xgd (xinb 2048 w1.1) (xlt (if (w1.2.1 129 (w1.1).toNatClampNeg) < v3 then (w1.2.1 129 (w1.1).toNatClampNeg) else v3) fun (x4 : Int32) => bX5_fewestJumps_123_122 v2 x4 (v4 + (1 : Int32)) w1.2)) = some z) : bX5_fewestJumps_123_122 v2 v3 v4 m = some z := by
  refine xstI ?_
  show xT 61 3 122 [(0, .ref 123), (2, .int v2), (3, .int v3), (4, .int v4)] [] m (some (.int z.1), z.2)
  refine e_iload rfl rfl (xnm_no rfl) ?_
  refine e_aload_n rfl rfl rfl (xnm_no rfl) ?_
  refine e_getI rfl rfl rfl rfl (xnm_no rfl) ?_
  refine e_icmp_ge (t := 153) rfl rfl (xnm_no rfl) (xnm_no rfl) h (fun h => ?_) (fun h => ?_)
  · refine e_iload_n rfl rfl (xnm_no rfl) ?_
    cases h
    exact e_retI rfl rfl
  · refine e_iload_n rfl rfl (xnm_no rfl) ?_
    refine e_aload_n rfl rfl rfl (xnm_no rfl) ?_
    refine e_getR (r := 129) rfl rfl rfl rfl rfl (xnm_no rfl) ?_
    refine e_iload_n rfl rfl (xnm_no rfl) ?_
    refine e_iload rfl rfl (xnm_no rfl) ?_
    obtain ⟨w1, hw2, h⟩ := xbd_some h
    refine e_cIS (hc := hw2) (rest := [.ref 129, .int _]) rfl rfl rfl rfl rfl rfl rfl rfl (xnm_no rfl) ?_
    obtain ⟨g3, h⟩ := xgd_some h
    refine e_iald rfl g3 (xnm_no rfl) ?_
    refine e_min rfl rfl rfl (xnm_no rfl) ?_
    replace h := xlt_b h
    refine e_istore_n rfl rfl (xnm_no rfl) ?_
    refine e_iinc (y := 1) rfl rfl rfl (by decide) (xnm_no rfl) ?_
    refine e_goto (t := 122) rfl rfl rfl ?_
    exact xlfI h
set_option maxRecDepth 4000 in
theorem fX11_order_0_i (v1 : Int32) (m : xmm) {z : Int32 × xmm} (h : (if v1 < 0 then some ((-1 : Int32), m) else if v1 ≤ (9 : Int32) then (fX11_study_0 m).bind fun (w1 : xmm) => (fX1_isOrdered_97 w1).bind fun (w3 : Int32 × xmm) => if w3.1 = 0 then some ((-2 : Int32), w3.2) else if v1 = 0 then (fX5_countStraight_123 w3.2).bind fun (w6 : Int32 × xmm) => some (w6.1, w6.2) else if v1 = 1 then (fX5_countCovers_123 w3.2).bind fun (w9 : Int32 × xmm) => some (w9.1, w9.2) else if v1 = 2 then (fX3_everyPost 10 w3.2).bind fun (w12 : Int32 × xmm) => (fX9_greatestApart 13 w12.1 w12.2).bind fun (w14 : Int32 × xmm) => (fJ6_bitCount w14.1 w14.2).bind fun (w16 : Int32 × xmm) => some (w16.1, w16.2) else if v1 = 3 then (fX3_everyPost 10 w3.2).bind fun (w19 : Int32 × xmm) => (fX9_greatestApart 13 w19.1 w19.2).bind fun (w21 : Int32 × xmm) => some (w21.1, w21.2) else if v1 = 4 then (fX3_everyPost 10 w3.2).bind fun (w24 : Int32 × xmm) => (fX9_greatestApart 11 w24.1 w24.2).bind fun (w26 : Int32 × xmm) => (fJ6_bitCount w26.1 w26.2).bind fun (w28 : Int32 × xmm) => some (w28.1, w28.2) else if v1 = 5 then (fX3_everyPost 10 w3.2).bind fun (w31 : Int32 × xmm) => (fX9_greatestApart 11 w31.1 w31.2).bind fun (w33 : Int32 × xmm) => some (w33.1, w33.2) else if v1 = 6 then (fX10_share_132_10 w3.2).bind fun (w36 : Int32 × xmm) => some (w36.1, w36.2) else if v1 = 7 then (fX5_greatestLevel_123 w3.2).bind fun (w39 : Int32 × xmm) => some (w39.1, w39.2) else if v1 = 8 then (fX5_countDown_123 w3.2).bind fun (w42 : Int32 × xmm) => some (w42.1, w42.2) else (fX5_fewestJumps_123 w3.2).bind fun (w44 : Int32 × xmm) => some (w44.1, w44.2) else some ((-1 : Int32), m)) = some z) : fX11_order_0 v1 m = some z := by
  refine xstI ?_
  show xT 133 11 0 [(0, .ref 0), (1, .int v1)] [] m (some (.int z.1), z.2)
  refine e_iload_n rfl rfl (xnm_no rfl) ?_
  refine e_if_lt (t := 10) rfl rfl (xnm_no rfl) (xnm_no rfl) h (fun h => ?_) (fun h => ?_)
  · refine e_iconst (x := -1) rfl (by decide) (xnm_no rfl) ?_
    cases h
    exact e_retI rfl rfl
  · refine e_iload_n rfl rfl (xnm_no rfl) ?_
    refine e_bipush (x := 9) rfl (by decide) (xnm_no rfl) ?_
    refine e_icmp_le (t := 12) rfl rfl (xnm_no rfl) (xnm_no rfl) h (fun h => ?_) (fun h => ?_)
    · refine e_aload_n rfl rfl rfl (xnm_no rfl) ?_
      obtain ⟨w1, hw2, h⟩ := xbd_some h
      refine e_cVV (hc := hw2) (rest := []) rfl rfl rfl rfl rfl rfl rfl rfl (xnm_no rfl) ?_
      refine e_aload_n rfl rfl rfl (xnm_no rfl) ?_
      refine e_getR (r := 97) rfl rfl rfl rfl rfl (xnm_no rfl) ?_
      obtain ⟨w3, hw4, h⟩ := xbd_some h
      refine e_cIV (hc := hw4) (rest := []) rfl rfl rfl rfl rfl rfl rfl rfl (xnm_no rfl) ?_
      refine e_if_ne (t := 29) rfl rfl (xnm_no rfl) (xnm_no rfl) h (fun h => ?_) (fun h => ?_)
      · refine e_iload_n rfl rfl (xnm_no rfl) ?_
        by_cases c5 : v1 = 0
        · rw [if_pos c5] at h
          refine e_sw (t := 80) (o := 50) rfl (by decide) (xsw_p c5) rfl (xnm_no rfl) ?_
          refine e_aload_n rfl rfl rfl (xnm_no rfl) ?_
          refine e_getR (r := 123) rfl rfl rfl rfl rfl (xnm_no rfl) ?_
          obtain ⟨w6, hw7, h⟩ := xbd_some h
          refine e_cIV (hc := hw7) (rest := []) rfl rfl rfl rfl rfl rfl rfl rfl (xnm_no rfl) ?_
          cases h
          exact e_retI rfl rfl
        · rw [if_neg c5] at h
          by_cases c8 : v1 = 1
          · rw [if_pos c8] at h
            refine e_sw (t := 88) (o := 58) rfl (by decide) (xsw_n c5 (xsw_p c8)) rfl (xnm_no rfl) ?_
            refine e_aload_n rfl rfl rfl (xnm_no rfl) ?_
            refine e_getR (r := 123) rfl rfl rfl rfl rfl (xnm_no rfl) ?_
            obtain ⟨w9, hw10, h⟩ := xbd_some h
            refine e_cIV (hc := hw10) (rest := []) rfl rfl rfl rfl rfl rfl rfl rfl (xnm_no rfl) ?_
            cases h
            exact e_retI rfl rfl
          · rw [if_neg c8] at h
            by_cases c11 : v1 = 2
            · rw [if_pos c11] at h
              refine e_sw (t := 96) (o := 66) rfl (by decide) (xsw_n c5 (xsw_n c8 (xsw_p c11))) rfl (xnm_no rfl) ?_
              refine e_aload_n rfl rfl rfl (xnm_no rfl) ?_
              refine e_getR (r := 12) rfl rfl rfl rfl rfl (xnm_no rfl) ?_
              refine e_getR (r := 13) rfl rfl rfl rfl rfl (xnm_no rfl) ?_
              refine e_aload_n rfl rfl rfl (xnm_no rfl) ?_
              refine e_getR (r := 10) rfl rfl rfl rfl rfl (xnm_no rfl) ?_
              obtain ⟨w12, hw13, h⟩ := xbd_some h
              refine e_cIV (hc := hw13) (rest := [.ref 13]) rfl rfl rfl rfl rfl rfl rfl rfl (xnm_no rfl) ?_
              obtain ⟨w14, hw15, h⟩ := xbd_some h
              refine e_cIS (hc := hw15) (rest := []) rfl rfl rfl rfl rfl rfl rfl rfl (xnm_no rfl) ?_
              obtain ⟨w16, hw17, h⟩ := xbd_some h
              refine e_cIS (hc := hw17) (rest := []) rfl rfl rfl rfl rfl rfl rfl rfl (xnm_no rfl) ?_
              cases h
              exact e_retI rfl rfl
            · rw [if_neg c11] at h
              by_cases c18 : v1 = 3
              · rw [if_pos c18] at h
                refine e_sw (t := 117) (o := 87) rfl (by decide) (xsw_n c5 (xsw_n c8 (xsw_n c11 (xsw_p c18)))) rfl (xnm_no rfl) ?_
                refine e_aload_n rfl rfl rfl (xnm_no rfl) ?_
                refine e_getR (r := 12) rfl rfl rfl rfl rfl (xnm_no rfl) ?_
                refine e_getR (r := 13) rfl rfl rfl rfl rfl (xnm_no rfl) ?_
                refine e_aload_n rfl rfl rfl (xnm_no rfl) ?_
                refine e_getR (r := 10) rfl rfl rfl rfl rfl (xnm_no rfl) ?_
                obtain ⟨w19, hw20, h⟩ := xbd_some h
                refine e_cIV (hc := hw20) (rest := [.ref 13]) rfl rfl rfl rfl rfl rfl rfl rfl (xnm_no rfl) ?_
                obtain ⟨w21, hw22, h⟩ := xbd_some h
                refine e_cIS (hc := hw22) (rest := []) rfl rfl rfl rfl rfl rfl rfl rfl (xnm_no rfl) ?_
                cases h
                exact e_retI rfl rfl
              · rw [if_neg c18] at h
                by_cases c23 : v1 = 4
                · rw [if_pos c23] at h
                  refine e_sw (t := 135) (o := 105) rfl (by decide) (xsw_n c5 (xsw_n c8 (xsw_n c11 (xsw_n c18 (xsw_p c23))))) rfl (xnm_no rfl) ?_
                  refine e_aload_n rfl rfl rfl (xnm_no rfl) ?_
                  refine e_getR (r := 10) rfl rfl rfl rfl rfl (xnm_no rfl) ?_
                  refine e_getR (r := 11) rfl rfl rfl rfl rfl (xnm_no rfl) ?_
                  refine e_aload_n rfl rfl rfl (xnm_no rfl) ?_
                  refine e_getR (r := 10) rfl rfl rfl rfl rfl (xnm_no rfl) ?_
                  obtain ⟨w24, hw25, h⟩ := xbd_some h
                  refine e_cIV (hc := hw25) (rest := [.ref 11]) rfl rfl rfl rfl rfl rfl rfl rfl (xnm_no rfl) ?_
                  obtain ⟨w26, hw27, h⟩ := xbd_some h
                  refine e_cIS (hc := hw27) (rest := []) rfl rfl rfl rfl rfl rfl rfl rfl (xnm_no rfl) ?_
                  obtain ⟨w28, hw29, h⟩ := xbd_some h
                  refine e_cIS (hc := hw29) (rest := []) rfl rfl rfl rfl rfl rfl rfl rfl (xnm_no rfl) ?_
                  cases h
                  exact e_retI rfl rfl
                · rw [if_neg c23] at h
                  by_cases c30 : v1 = 5
                  · rw [if_pos c30] at h
                    refine e_sw (t := 156) (o := 126) rfl (by decide) (xsw_n c5 (xsw_n c8 (xsw_n c11 (xsw_n c18 (xsw_n c23 (xsw_p c30)))))) rfl (xnm_no rfl) ?_
                    refine e_aload_n rfl rfl rfl (xnm_no rfl) ?_
                    refine e_getR (r := 10) rfl rfl rfl rfl rfl (xnm_no rfl) ?_
                    refine e_getR (r := 11) rfl rfl rfl rfl rfl (xnm_no rfl) ?_
                    refine e_aload_n rfl rfl rfl (xnm_no rfl) ?_
                    refine e_getR (r := 10) rfl rfl rfl rfl rfl (xnm_no rfl) ?_
                    obtain ⟨w31, hw32, h⟩ := xbd_some h
                    refine e_cIV (hc := hw32) (rest := [.ref 11]) rfl rfl rfl rfl rfl rfl rfl rfl (xnm_no rfl) ?_
                    obtain ⟨w33, hw34, h⟩ := xbd_some h
                    refine e_cIS (hc := hw34) (rest := []) rfl rfl rfl rfl rfl rfl rfl rfl (xnm_no rfl) ?_
                    cases h
                    exact e_retI rfl rfl
                  · rw [if_neg c30] at h
                    by_cases c35 : v1 = 6
                    · rw [if_pos c35] at h
                      refine e_sw (t := 174) (o := 144) rfl (by decide) (xsw_n c5 (xsw_n c8 (xsw_n c11 (xsw_n c18 (xsw_n c23 (xsw_n c30 (xsw_p c35))))))) rfl (xnm_no rfl) ?_
                      refine e_aload_n rfl rfl rfl (xnm_no rfl) ?_
                      refine e_getR (r := 132) rfl rfl rfl rfl rfl (xnm_no rfl) ?_
                      refine e_aload_n rfl rfl rfl (xnm_no rfl) ?_
                      refine e_getR (r := 10) rfl rfl rfl rfl rfl (xnm_no rfl) ?_
                      obtain ⟨w36, hw37, h⟩ := xbd_some h
                      refine e_cIV (hc := hw37) (rest := []) rfl rfl rfl rfl rfl rfl rfl rfl (xnm_no rfl) ?_
                      cases h
                      exact e_retI rfl rfl
                    · rw [if_neg c35] at h
                      by_cases c38 : v1 = 7
                      · rw [if_pos c38] at h
                        refine e_sw (t := 186) (o := 156) rfl (by decide) (xsw_n c5 (xsw_n c8 (xsw_n c11 (xsw_n c18 (xsw_n c23 (xsw_n c30 (xsw_n c35 (xsw_p c38)))))))) rfl (xnm_no rfl) ?_
                        refine e_aload_n rfl rfl rfl (xnm_no rfl) ?_
                        refine e_getR (r := 123) rfl rfl rfl rfl rfl (xnm_no rfl) ?_
                        obtain ⟨w39, hw40, h⟩ := xbd_some h
                        refine e_cIV (hc := hw40) (rest := []) rfl rfl rfl rfl rfl rfl rfl rfl (xnm_no rfl) ?_
                        cases h
                        exact e_retI rfl rfl
                      · rw [if_neg c38] at h
                        by_cases c41 : v1 = 8
                        · rw [if_pos c41] at h
                          refine e_sw (t := 194) (o := 164) rfl (by decide) (xsw_n c5 (xsw_n c8 (xsw_n c11 (xsw_n c18 (xsw_n c23 (xsw_n c30 (xsw_n c35 (xsw_n c38 (xsw_p c41))))))))) rfl (xnm_no rfl) ?_
                          refine e_aload_n rfl rfl rfl (xnm_no rfl) ?_
                          refine e_getR (r := 123) rfl rfl rfl rfl rfl (xnm_no rfl) ?_
                          obtain ⟨w42, hw43, h⟩ := xbd_some h
                          refine e_cIV (hc := hw43) (rest := []) rfl rfl rfl rfl rfl rfl rfl rfl (xnm_no rfl) ?_
                          cases h
                          exact e_retI rfl rfl
                        · rw [if_neg c41] at h
                          refine e_sw (t := 202) (o := 172) rfl (by decide) (xsw_n c5 (xsw_n c8 (xsw_n c11 (xsw_n c18 (xsw_n c23 (xsw_n c30 (xsw_n c35 (xsw_n c38 (xsw_n c41 xsw_d))))))))) rfl (xnm_no rfl) ?_
                          refine e_aload_n rfl rfl rfl (xnm_no rfl) ?_
                          refine e_getR (r := 123) rfl rfl rfl rfl rfl (xnm_no rfl) ?_
                          obtain ⟨w44, hw45, h⟩ := xbd_some h
                          refine e_cIV (hc := hw45) (rest := []) rfl rfl rfl rfl rfl rfl rfl rfl (xnm_no rfl) ?_
                          cases h
                          exact e_retI rfl rfl
      · refine e_bipush (x := -2) rfl (by decide) (xnm_no rfl) ?_
        cases h
        exact e_retI rfl rfl
    · refine e_iconst (x := -1) rfl (by decide) (xnm_no rfl) ?_
      cases h
      exact e_retI rfl rfl
set_option maxRecDepth 4000 in
theorem fX10_part_i (v0 : Nat) (v1 : Nat) (v2 : Nat) (v3 : Int32) (v4 : Int32) (v5 : Int32) (m : xmm) {z : xmm} (h : (if v4 ≤ v3 then bX10_part_12 (xrk 113 [.ref v0, .ref v1, .ref v2, .int v3, .int v4, .int v5]) v2 v5 m else if v3 < (8 : Int32) then bX10_part_24 (xrk 113 [.ref v0, .ref v1, .ref v2, .int v3, .int v4, .int v5]) v0 v1 v2 v3 v4 v5 (0 : Int32) m else bX10_part_12 (xrk 113 [.ref v0, .ref v1, .ref v2, .int v3, .int v4, .int v5]) v2 v5 m) = some z) : fX10_part v0 v1 v2 v3 v4 v5 m = some z := by
  refine xstV ?_
  show xT 113 (xrk 113 [.ref v0, .ref v1, .ref v2, .int v3, .int v4, .int v5]) 0 [(0, .ref v0), (1, .ref v1), (2, .ref v2), (3, .int v3), (4, .int v4), (5, .int v5)] [] m (none, z)
  refine e_iload_n rfl rfl (xnm_no rfl) ?_
  refine e_iload rfl rfl (xnm_no rfl) ?_
  refine e_icmp_ge (t := 12) rfl rfl rfl (xnm_no rfl) h (fun h => ?_) (fun h => ?_)
  · exact xlfV h
  · refine e_iload_n rfl rfl (xnm_no rfl) ?_
    refine e_bipush (x := 8) rfl (by decide) (xnm_no rfl) ?_
    refine e_icmp_lt (t := 21) rfl rfl (xnm_no rfl) rfl h (fun h => ?_) (fun h => ?_)
    · refine e_iconst (x := 0) rfl (by decide) (xnm_no rfl) ?_
      refine e_istore rfl rfl rfl ?_
      exact xlfV h
    · exact xlfV h
set_option maxRecDepth 4000 in
theorem bX10_part_12_i (rk : Nat) (v2 : Nat) (v5 : Int32) (m : xmm) {z : xmm} (h : (xgd (!(Nat.beq v2 1999)) (xgd (xia 1 v2 v5) (xlt (xwi m v2 (v5).toNatClampNeg ((m.1 v2 (v5).toNatClampNeg) + (1 : Int32))) fun (m3 : xmm) => some m3))) = some z) : bX10_part_12 rk v2 v5 m = some z := by
  refine xstV ?_
  show xT 113 rk 12 [(2, .ref v2), (5, .int v5)] [] m (none, z)
  obtain ⟨g1, h⟩ := xgd_some h
  refine e_aload_n rfl rfl (xnb g1) (xnm_no rfl) ?_
  refine e_iload rfl rfl (xnm_no rfl) ?_
  refine e_dup2 rfl rfl rfl (xnm_no rfl) ?_
  obtain ⟨g2, h⟩ := xgd_some h
  refine e_iald rfl g2 (xnm_no rfl) ?_
  refine e_iconst (x := 1) rfl (by decide) (xnm_no rfl) ?_
  refine e_iadd rfl (xnm_no rfl) ?_
  refine e_iast rfl g2 (xnm_no rfl) ?_
  replace h := xlt_b h
  cases h
  exact e_retV rfl rfl
set_option maxRecDepth 4000 in
theorem bX10_part_24_i (rk : Nat) (v0 : Nat) (v1 : Nat) (v2 : Nat) (v3 : Int32) (v4 : Int32) (v5 : Int32) (v6 : Int32) (m : xmm) {z : xmm} (h : (if v5 < v6 then some m else if (8 : Int32) ≤ v6 then some m else xgd (!(Nat.beq v1 1999)) (xgd (xia 1 v1 v6) (xgd (!(Nat.beq v0 1999)) (xgd (xia 1 v0 v3) (if ((m.1 v1 (v6).toNatClampNeg) &&& (m.1 v0 (v3).toNatClampNeg)) = 0 then xlt (xwi m v1 (v6).toNatClampNeg ((m.1 v1 (v6).toNatClampNeg) ||| ((1 : Int32) <<< (v3 &&& 31)))) fun (m5 : xmm) => xgd (!(Nat.beq v2 1999)) (if v6 = v5 then bX10_part_83 rk v0 v1 v2 v3 v4 v5 v6 v0 v1 v2 (v3 + (1 : Int32)) v4 (v5 + (1 : Int32)) m5 else bX10_part_83 rk v0 v1 v2 v3 v4 v5 v6 v0 v1 v2 (v3 + (1 : Int32)) v4 v5 m5) else bX10_part_24 rk v0 v1 v2 v3 v4 v5 (v6 + (1 : Int32)) m))))) = some z) : bX10_part_24 rk v0 v1 v2 v3 v4 v5 v6 m = some z := by
  refine xstV ?_
  show xT 113 rk 24 [(0, .ref v0), (1, .ref v1), (2, .ref v2), (3, .int v3), (4, .int v4), (5, .int v5), (6, .int v6)] [] m (none, z)
  refine e_iload rfl rfl (xnm_no rfl) ?_
  refine e_iload rfl rfl (xnm_no rfl) ?_
  refine e_icmp_gt (t := 104) rfl rfl (xnm_no rfl) (xnm_no rfl) h (fun h => ?_) (fun h => ?_)
  · cases h
    exact e_retV rfl rfl
  · refine e_iload rfl rfl (xnm_no rfl) ?_
    refine e_bipush (x := 8) rfl (by decide) (xnm_no rfl) ?_
    refine e_icmp_ge (t := 104) rfl rfl (xnm_no rfl) (xnm_no rfl) h (fun h => ?_) (fun h => ?_)
    · cases h
      exact e_retV rfl rfl
    · obtain ⟨g1, h⟩ := xgd_some h
      refine e_aload_n rfl rfl (xnb g1) (xnm_no rfl) ?_
      refine e_iload rfl rfl (xnm_no rfl) ?_
      obtain ⟨g2, h⟩ := xgd_some h
      refine e_iald rfl g2 (xnm_no rfl) ?_
      obtain ⟨g3, h⟩ := xgd_some h
      refine e_aload_n rfl rfl (xnb g3) (xnm_no rfl) ?_
      refine e_iload_n rfl rfl (xnm_no rfl) ?_
      obtain ⟨g4, h⟩ := xgd_some h
      refine e_iald rfl g4 (xnm_no rfl) ?_
      refine e_iand rfl (xnm_no rfl) ?_
      refine e_if_ne (t := 98) rfl rfl (xnm_no rfl) (xnm_no rfl) h (fun h => ?_) (fun h => ?_)
      · refine e_iinc (y := 1) rfl rfl rfl (by decide) (xnm_no rfl) ?_
        refine e_goto (t := 24) rfl rfl rfl ?_
        exact xlfV h
      · refine e_aload_n rfl rfl (xnb g1) (xnm_no rfl) ?_
        refine e_iload rfl rfl (xnm_no rfl) ?_
        refine e_dup2 rfl rfl rfl (xnm_no rfl) ?_
        refine e_iald rfl g2 (xnm_no rfl) ?_
        refine e_iconst (x := 1) rfl (by decide) (xnm_no rfl) ?_
        refine e_iload_n rfl rfl (xnm_no rfl) ?_
        refine e_ishl rfl (xnm_no rfl) ?_
        refine e_ior rfl (xnm_no rfl) ?_
        refine e_iast rfl g2 (xnm_no rfl) ?_
        replace h := xlt_b h
        refine e_aload_n rfl rfl (xnb g3) (xnm_no rfl) ?_
        refine e_aload_n rfl rfl (xnb g1) (xnm_no rfl) ?_
        obtain ⟨g6, h⟩ := xgd_some h
        refine e_aload_n rfl rfl (xnb g6) (xnm_no rfl) ?_
        refine e_iload_n rfl rfl (xnm_no rfl) ?_
        refine e_iconst (x := 1) rfl (by decide) (xnm_no rfl) ?_
        refine e_iadd rfl (xnm_no rfl) ?_
        refine e_iload rfl rfl (xnm_no rfl) ?_
        refine e_iload rfl rfl (xnm_no rfl) ?_
        refine e_iload rfl rfl (xnm_no rfl) ?_
        refine e_icmp_ne (t := 81) rfl rfl (xnm_no rfl) (xnm_no rfl) h (fun h => ?_) (fun h => ?_)
        · refine e_iload rfl rfl rfl ?_
          exact xlfV h
        · refine e_iload rfl rfl (xnm_no rfl) ?_
          refine e_iconst (x := 1) rfl (by decide) (xnm_no rfl) ?_
          refine e_iadd rfl (xnm_no rfl) ?_
          refine e_goto (t := 83) rfl rfl rfl ?_
          exact xlfV h
set_option maxRecDepth 4000 in
theorem bX10_part_83_i (rk : Nat) (v0 : Nat) (v1 : Nat) (v2 : Nat) (v3 : Int32) (v4 : Int32) (v5 : Int32) (v6 : Int32) (s0 : Nat) (s1 : Nat) (s2 : Nat) (s3 : Int32) (s4 : Int32) (s5 : Int32) (m : xmm) {z : xmm} (h : (xgd (xcg 113 rk 113 [.ref s0, .ref s1, .ref s2, .int s3, .int s4, .int s5] []) ((fX10_part s0 s1 s2 s3 s4 s5 m).bind fun (w1 : xmm) => xgd (!(Nat.beq v1 1999)) (xgd (xia 1 v1 v6) (xlt (xwi w1 v1 (v6).toNatClampNeg ((w1.1 v1 (v6).toNatClampNeg) &&& (((1 : Int32) <<< (v3 &&& 31)) ^^^ (-1 : Int32)))) fun (m6 : xmm) => bX10_part_24 rk v0 v1 v2 v3 v4 v5 (v6 + (1 : Int32)) m6)))) = some z) : bX10_part_83 rk v0 v1 v2 v3 v4 v5 v6 s0 s1 s2 s3 s4 s5 m = some z := by
  refine xstV ?_
  show xT 113 rk 83 [(0, .ref v0), (1, .ref v1), (2, .ref v2), (3, .int v3), (4, .int v4), (5, .int v5), (6, .int v6)] [.int s5, .int s4, .int s3, .ref s2, .ref s1, .ref s0] m (none, z)
  obtain ⟨g3, h⟩ := xgd_some h
  obtain ⟨w1, hw2, h⟩ := xbd_some h
  refine e_cVS (hc := hw2) (rest := []) rfl rfl rfl rfl rfl rfl g3 rfl (xnm_no rfl) ?_
  obtain ⟨g4, h⟩ := xgd_some h
  refine e_aload_n rfl rfl (xnb g4) (xnm_no rfl) ?_
  refine e_iload rfl rfl (xnm_no rfl) ?_
  refine e_dup2 rfl rfl rfl (xnm_no rfl) ?_
  obtain ⟨g5, h⟩ := xgd_some h
  refine e_iald rfl g5 (xnm_no rfl) ?_
  refine e_iconst (x := 1) rfl (by decide) (xnm_no rfl) ?_
  refine e_iload_n rfl rfl (xnm_no rfl) ?_
  refine e_ishl rfl (xnm_no rfl) ?_
  refine e_iconst (x := -1) rfl (by decide) (xnm_no rfl) ?_
  refine e_ixor rfl (xnm_no rfl) ?_
  refine e_iand rfl (xnm_no rfl) ?_
  refine e_iast rfl g5 (xnm_no rfl) ?_
  replace h := xlt_b h
  refine e_iinc (y := 1) rfl rfl rfl (by decide) (xnm_no rfl) ?_
  refine e_goto (t := 24) rfl rfl rfl ?_
  exact xlfV h
set_option maxRecDepth 4000 in
theorem fX10_colourings_132_10_i (v2 : Int32) (m : xmm) {z : Int32 × xmm} (h : ((fX10_clearGroups_132 m).bind fun (w1 : xmm) => bX10_colourings_132_10_6 v2 (0 : Int32) w1) = some z) : fX10_colourings_132_10 v2 m = some z := by
  refine xstI ?_
  show xT 112 10 0 [(0, .ref 132), (1, .ref 10), (2, .int v2)] [] m (some (.int z.1), z.2)
  refine e_aload_n rfl rfl rfl (xnm_no rfl) ?_
  obtain ⟨w1, hw2, h⟩ := xbd_some h
  refine e_cVV (hc := hw2) (rest := []) rfl rfl rfl rfl rfl rfl rfl rfl (xnm_no rfl) ?_
  refine e_iconst (x := 0) rfl (by decide) (xnm_no rfl) ?_
  refine e_istore_n rfl rfl rfl ?_
  exact xlfI h
set_option maxRecDepth 4000 in
theorem bX10_colourings_132_10_6_i (v2 : Int32) (v3 : Int32) (m : xmm) {z : Int32 × xmm} (h : (if (8 : Int32) < v3 then xgd (xcg 112 10 113 [.ref 11, .ref 133, .ref 135, .int (0 : Int32), .int (if (8 : Int32) < (m.1 10 0) then (8 : Int32) else (m.1 10 0)), .int (0 : Int32)] []) ((fX10_part 11 133 135 (0 : Int32) (if (8 : Int32) < (m.1 10 0) then (8 : Int32) else (m.1 10 0)) (0 : Int32) m).bind fun (w1 : xmm) => bX10_colourings_132_10_59 v2 (0 : Int32) (1 : Int32) (0 : Int32) w1) else xgd (xinb 9 v3) (xlt (xwi m 135 (v3).toNatClampNeg (0 : Int32)) fun (m5 : xmm) => bX10_colourings_132_10_6 v2 (v3 + (1 : Int32)) m5)) = some z) : bX10_colourings_132_10_6 v2 v3 m = some z := by
  refine xstI ?_
  show xT 112 10 6 [(0, .ref 132), (1, .ref 10), (2, .int v2), (3, .int v3)] [] m (some (.int z.1), z.2)
  refine e_iload_n rfl rfl (xnm_no rfl) ?_
  refine e_bipush (x := 8) rfl (by decide) (xnm_no rfl) ?_
  refine e_icmp_gt (t := 25) rfl rfl (xnm_no rfl) (xnm_no rfl) h (fun h => ?_) (fun h => ?_)
  · refine e_aload_n rfl rfl rfl (xnm_no rfl) ?_
    refine e_getR (r := 11) rfl rfl rfl rfl rfl (xnm_no rfl) ?_
    refine e_aload_n rfl rfl rfl (xnm_no rfl) ?_
    refine e_getR (r := 133) rfl rfl rfl rfl rfl (xnm_no rfl) ?_
    refine e_aload_n rfl rfl rfl (xnm_no rfl) ?_
    refine e_getR (r := 135) rfl rfl rfl rfl rfl (xnm_no rfl) ?_
    refine e_iconst (x := 0) rfl (by decide) (xnm_no rfl) ?_
    refine e_aload_n rfl rfl rfl (xnm_no rfl) ?_
    refine e_getI rfl rfl rfl rfl (xnm_no rfl) ?_
    refine e_bipush (x := 8) rfl (by decide) (xnm_no rfl) ?_
    refine e_min rfl rfl rfl (xnm_no rfl) ?_
    refine e_iconst (x := 0) rfl (by decide) (xnm_no rfl) ?_
    obtain ⟨g3, h⟩ := xgd_some h
    obtain ⟨w1, hw2, h⟩ := xbd_some h
    refine e_cVS (hc := hw2) (rest := []) rfl rfl rfl rfl rfl rfl g3 rfl (xnm_no rfl) ?_
    refine e_iconst (x := 0) rfl (by decide) (xnm_no rfl) ?_
    refine e_istore_n rfl rfl (xnm_no rfl) ?_
    refine e_iconst (x := 1) rfl (by decide) (xnm_no rfl) ?_
    refine e_istore rfl rfl (xnm_no rfl) ?_
    refine e_iconst (x := 0) rfl (by decide) (xnm_no rfl) ?_
    refine e_istore rfl rfl rfl ?_
    exact xlfI h
  · refine e_aload_n rfl rfl rfl (xnm_no rfl) ?_
    refine e_getR (r := 135) rfl rfl rfl rfl rfl (xnm_no rfl) ?_
    refine e_iload_n rfl rfl (xnm_no rfl) ?_
    refine e_iconst (x := 0) rfl (by decide) (xnm_no rfl) ?_
    obtain ⟨g4, h⟩ := xgd_some h
    refine e_iast rfl g4 (xnm_no rfl) ?_
    replace h := xlt_b h
    refine e_iinc (y := 1) rfl rfl rfl (by decide) (xnm_no rfl) ?_
    refine e_goto (t := 6) rfl rfl rfl ?_
    exact xlfI h
set_option maxRecDepth 4000 in
theorem bX10_colourings_132_10_59_i (v2 : Int32) (v3 : Int32) (v4 : Int32) (v5 : Int32) (m : xmm) {z : Int32 × xmm} (h : (if (8 : Int32) < v5 then some (v3, m) else xgd (xinb 9 v5) (bX10_colourings_132_10_59 v2 (v3 + (v4 * (m.1 135 (v5).toNatClampNeg))) (v4 * (v2 - v5)) (v5 + (1 : Int32)) m)) = some z) : bX10_colourings_132_10_59 v2 v3 v4 v5 m = some z := by
  refine xstI ?_
  show xT 112 10 59 [(0, .ref 132), (2, .int v2), (3, .int v3), (4, .int v4), (5, .int v5)] [] m (some (.int z.1), z.2)
  refine e_iload rfl rfl (xnm_no rfl) ?_
  refine e_bipush (x := 8) rfl (by decide) (xnm_no rfl) ?_
  refine e_icmp_gt (t := 94) rfl rfl (xnm_no rfl) (xnm_no rfl) h (fun h => ?_) (fun h => ?_)
  · refine e_iload_n rfl rfl (xnm_no rfl) ?_
    cases h
    exact e_retI rfl rfl
  · refine e_iload_n rfl rfl (xnm_no rfl) ?_
    refine e_iload rfl rfl (xnm_no rfl) ?_
    refine e_aload_n rfl rfl rfl (xnm_no rfl) ?_
    refine e_getR (r := 135) rfl rfl rfl rfl rfl (xnm_no rfl) ?_
    refine e_iload rfl rfl (xnm_no rfl) ?_
    obtain ⟨g1, h⟩ := xgd_some h
    refine e_iald rfl g1 (xnm_no rfl) ?_
    refine e_imul rfl (xnm_no rfl) ?_
    refine e_iadd rfl (xnm_no rfl) ?_
    refine e_istore_n rfl rfl (xnm_no rfl) ?_
    refine e_iload rfl rfl (xnm_no rfl) ?_
    refine e_iload_n rfl rfl (xnm_no rfl) ?_
    refine e_iload rfl rfl (xnm_no rfl) ?_
    refine e_isub rfl (xnm_no rfl) ?_
    refine e_imul rfl (xnm_no rfl) ?_
    refine e_istore rfl rfl (xnm_no rfl) ?_
    refine e_iinc (y := 1) rfl rfl rfl (by decide) (xnm_no rfl) ?_
    refine e_goto (t := 59) rfl rfl rfl ?_
    exact xlfI h
set_option maxRecDepth 4000 in
theorem fX11_colours_0_i (v1 : Int32) (m : xmm) {z : Int32 × xmm} (h : (if v1 < 0 then some ((-1 : Int32), m) else if v1 ≤ (9 : Int32) then (fX10_colourings_132_10 v1 m).bind fun (w1 : Int32 × xmm) => some (w1.1, w1.2) else some ((-1 : Int32), m)) = some z) : fX11_colours_0 v1 m = some z := by
  refine xstI ?_
  show xT 137 11 0 [(0, .ref 0), (1, .int v1)] [] m (some (.int z.1), z.2)
  refine e_iload_n rfl rfl (xnm_no rfl) ?_
  refine e_if_lt (t := 10) rfl rfl (xnm_no rfl) (xnm_no rfl) h (fun h => ?_) (fun h => ?_)
  · refine e_iconst (x := -1) rfl (by decide) (xnm_no rfl) ?_
    cases h
    exact e_retI rfl rfl
  · refine e_iload_n rfl rfl (xnm_no rfl) ?_
    refine e_bipush (x := 9) rfl (by decide) (xnm_no rfl) ?_
    refine e_icmp_le (t := 12) rfl rfl (xnm_no rfl) (xnm_no rfl) h (fun h => ?_) (fun h => ?_)
    · refine e_aload_n rfl rfl rfl (xnm_no rfl) ?_
      refine e_getR (r := 132) rfl rfl rfl rfl rfl (xnm_no rfl) ?_
      refine e_aload_n rfl rfl rfl (xnm_no rfl) ?_
      refine e_getR (r := 10) rfl rfl rfl rfl rfl (xnm_no rfl) ?_
      refine e_iload_n rfl rfl (xnm_no rfl) ?_
      obtain ⟨w1, hw2, h⟩ := xbd_some h
      refine e_cIV (hc := hw2) (rest := []) rfl rfl rfl rfl rfl rfl rfl rfl (xnm_no rfl) ?_
      cases h
      exact e_retI rfl rfl
    · refine e_iconst (x := -1) rfl (by decide) (xnm_no rfl) ?_
      cases h
      exact e_retI rfl rfl
set_option maxRecDepth 4000 in
theorem fX4_takeBack_14_10_i (m : xmm) {z : Int32 × xmm} (h : (if (m.1 14 2) = 0 then some ((0 : Int32), m) else xlt (xwi m 14 2 ((m.1 14 2) - (1 : Int32))) fun (m1 : xmm) => xlt (xwi m1 14 1 ((((m1.1 14 1) + (40 : Int32)) - (1 : Int32)) - (((m1.1 14 1) + (40 : Int32)) - (1 : Int32)) / (40 : Int32) * (40 : Int32))) fun (m2 : xmm) => xgd (xinb 40 (m2.1 14 1)) (xgr (xR0 15 ((m2.1 14 1)).toNatClampNeg) fun r4 => (fX3_copyFrom 10 r4 m2).bind fun (w6 : xmm) => some ((1 : Int32), w6))) = some z) : fX4_takeBack_14_10 m = some z := by
  refine xstI ?_
  show xT 40 1 0 [(0, .ref 14), (1, .ref 10)] [] m (some (.int z.1), z.2)
  refine e_aload_n rfl rfl rfl (xnm_no rfl) ?_
  refine e_getI rfl rfl rfl rfl (xnm_no rfl) ?_
  refine e_if_ne (t := 9) rfl rfl (xnm_no rfl) (xnm_no rfl) h (fun h => ?_) (fun h => ?_)
  · refine e_aload_n rfl rfl rfl (xnm_no rfl) ?_
    refine e_dup rfl rfl (xnm_no rfl) ?_
    refine e_getI rfl rfl rfl rfl (xnm_no rfl) ?_
    refine e_iconst (x := 1) rfl (by decide) (xnm_no rfl) ?_
    refine e_isub rfl (xnm_no rfl) ?_
    refine e_putI rfl rfl rfl rfl (xnm_no rfl) ?_
    replace h := xlt_b h
    refine e_aload_n rfl rfl rfl (xnm_no rfl) ?_
    refine e_aload_n rfl rfl rfl (xnm_no rfl) ?_
    refine e_getI rfl rfl rfl rfl (xnm_no rfl) ?_
    refine e_bipush (x := 40) rfl (by decide) (xnm_no rfl) ?_
    refine e_iadd rfl (xnm_no rfl) ?_
    refine e_iconst (x := 1) rfl (by decide) (xnm_no rfl) ?_
    refine e_isub rfl (xnm_no rfl) ?_
    refine e_bipush (x := 40) rfl (by decide) (xnm_no rfl) ?_
    refine e_irem rfl (by decide) (xnm_no rfl) ?_
    refine e_putI rfl rfl rfl rfl (xnm_no rfl) ?_
    replace h := xlt_b h
    refine e_aload_n rfl rfl rfl (xnm_no rfl) ?_
    refine e_aload_n rfl rfl rfl (xnm_no rfl) ?_
    refine e_getR (r := 15) rfl rfl rfl rfl rfl (xnm_no rfl) ?_
    refine e_aload_n rfl rfl rfl (xnm_no rfl) ?_
    refine e_getI rfl rfl rfl rfl (xnm_no rfl) ?_
    obtain ⟨g3, h⟩ := xgd_some h
    obtain ⟨r4, hr5, h⟩ := xgr_some h
    refine e_aald rfl g3 rfl hr5 (xnm_no rfl) ?_
    obtain ⟨w6, hw7, h⟩ := xbd_some h
    refine e_cVV (hc := hw7) (rest := []) rfl rfl rfl rfl rfl rfl rfl rfl (xnm_no rfl) ?_
    refine e_iconst (x := 1) rfl (by decide) (xnm_no rfl) ?_
    cases h
    exact e_retI rfl (by decide)
  · refine e_iconst (x := 0) rfl (by decide) (xnm_no rfl) ?_
    cases h
    exact e_retI rfl (by decide)
set_option maxRecDepth 4000 in
theorem fX11_undo_0_i (m : xmm) {z : Int32 × xmm} (h : (xlt (xwi m 0 6 (0 : Int32)) fun (m1 : xmm) => (fX4_takeBack_14_10 m1).bind fun (w2 : Int32 × xmm) => xgd (xz01 w2.1) (some (w2.1, w2.2))) = some z) : fX11_undo_0 m = some z := by
  refine xstI ?_
  show xT 123 2 0 [(0, .ref 0)] [] m (some (.int z.1), z.2)
  refine e_aload_n rfl rfl rfl (xnm_no rfl) ?_
  refine e_iconst (x := 0) rfl (by decide) (xnm_no rfl) ?_
  refine e_putI rfl rfl (by decide) rfl (xnm_no rfl) ?_
  replace h := xlt_b h
  refine e_aload_n rfl rfl rfl (xnm_no rfl) ?_
  refine e_getR (r := 14) rfl rfl rfl rfl rfl (xnm_no rfl) ?_
  refine e_aload_n rfl rfl rfl (xnm_no rfl) ?_
  refine e_getR (r := 10) rfl rfl rfl rfl rfl (xnm_no rfl) ?_
  obtain ⟨w2, hw3, h⟩ := xbd_some h
  refine e_cIV (hc := hw3) (rest := []) rfl rfl rfl rfl rfl rfl rfl rfl (xnm_no rfl) ?_
  obtain ⟨g4, h⟩ := xgd_some h
  cases h
  exact e_retI rfl g4
set_option maxRecDepth 4000 in
theorem fX11_set_0_i (v1 : Int32) (v2 : Int32) (m : xmm) {z : Int32 × xmm} (h : (if v1 < 0 then some ((-1 : Int32), m) else (fX3_everyPost 10 m).bind fun (w1 : Int32 × xmm) => if v1 ≤ w1.1 then (fX11_study_0 w1.2).bind fun (w3 : xmm) => if v2 = 0 then (fX9_isApart 13 v1 w3).bind fun (w6 : Int32 × xmm) => (fX11_bit w6.1 w6.2).bind fun (w8 : Int32 × xmm) => some (w8.1, w8.2) else if v2 = 1 then (fX9_isApart 11 v1 w3).bind fun (w11 : Int32 × xmm) => (fX11_bit w11.1 w11.2).bind fun (w13 : Int32 × xmm) => some (w13.1, w13.2) else if v2 = 2 then (fX3_everyPost 10 w3).bind fun (w16 : Int32 × xmm) => (fX9_isAlike 11 v1 w16.1 w16.2).bind fun (w18 : Int32 × xmm) => (fX11_bit w18.1 w18.2).bind fun (w20 : Int32 × xmm) => some (w20.1, w20.2) else if v2 = 3 then (fX9_isRound 11 v1 w3).bind fun (w23 : Int32 × xmm) => (fX11_bit w23.1 w23.2).bind fun (w25 : Int32 × xmm) => some (w25.1, w25.2) else some ((-1 : Int32), w3) else some ((-1 : Int32), w1.2)) = some z) : fX11_set_0 v1 v2 m = some z := by
  refine xstI ?_
  show xT 138 6 0 [(0, .ref 0), (1, .int v1), (2, .int v2)] [] m (some (.int z.1), z.2)
  refine e_iload_n rfl rfl (xnm_no rfl) ?_
  refine e_if_lt (t := 15) rfl rfl (xnm_no rfl) (xnm_no rfl) h (fun h => ?_) (fun h => ?_)
  · refine e_iconst (x := -1) rfl (by decide) (xnm_no rfl) ?_
    cases h
    exact e_retI rfl rfl
  · refine e_iload_n rfl rfl (xnm_no rfl) ?_
    refine e_aload_n rfl rfl rfl (xnm_no rfl) ?_
    refine e_getR (r := 10) rfl rfl rfl rfl rfl (xnm_no rfl) ?_
    obtain ⟨w1, hw2, h⟩ := xbd_some h
    refine e_cIV (hc := hw2) (rest := [.int _]) rfl rfl rfl rfl rfl rfl rfl rfl (xnm_no rfl) ?_
    refine e_icmp_le (t := 17) rfl rfl (xnm_no rfl) (xnm_no rfl) h (fun h => ?_) (fun h => ?_)
    · refine e_aload_n rfl rfl rfl (xnm_no rfl) ?_
      obtain ⟨w3, hw4, h⟩ := xbd_some h
      refine e_cVV (hc := hw4) (rest := []) rfl rfl rfl rfl rfl rfl rfl rfl (xnm_no rfl) ?_
      refine e_iload_n rfl rfl (xnm_no rfl) ?_
      by_cases c5 : v2 = 0
      · rw [if_pos c5] at h
        refine e_sw (t := 52) (o := 30) rfl (by decide) (xsw_p c5) rfl (xnm_no rfl) ?_
        refine e_aload_n rfl rfl rfl (xnm_no rfl) ?_
        refine e_getR (r := 12) rfl rfl rfl rfl rfl (xnm_no rfl) ?_
        refine e_getR (r := 13) rfl rfl rfl rfl rfl (xnm_no rfl) ?_
        refine e_iload_n rfl rfl (xnm_no rfl) ?_
        obtain ⟨w6, hw7, h⟩ := xbd_some h
        refine e_cIS (hc := hw7) (rest := []) rfl rfl rfl rfl rfl rfl rfl rfl (xnm_no rfl) ?_
        obtain ⟨w8, hw9, h⟩ := xbd_some h
        refine e_cIS (hc := hw9) (rest := []) rfl rfl rfl rfl rfl rfl rfl rfl (xnm_no rfl) ?_
        cases h
        exact e_retI rfl rfl
      · rw [if_neg c5] at h
        by_cases c10 : v2 = 1
        · rw [if_pos c10] at h
          refine e_sw (t := 67) (o := 45) rfl (by decide) (xsw_n c5 (xsw_p c10)) rfl (xnm_no rfl) ?_
          refine e_aload_n rfl rfl rfl (xnm_no rfl) ?_
          refine e_getR (r := 10) rfl rfl rfl rfl rfl (xnm_no rfl) ?_
          refine e_getR (r := 11) rfl rfl rfl rfl rfl (xnm_no rfl) ?_
          refine e_iload_n rfl rfl (xnm_no rfl) ?_
          obtain ⟨w11, hw12, h⟩ := xbd_some h
          refine e_cIS (hc := hw12) (rest := []) rfl rfl rfl rfl rfl rfl rfl rfl (xnm_no rfl) ?_
          obtain ⟨w13, hw14, h⟩ := xbd_some h
          refine e_cIS (hc := hw14) (rest := []) rfl rfl rfl rfl rfl rfl rfl rfl (xnm_no rfl) ?_
          cases h
          exact e_retI rfl rfl
        · rw [if_neg c10] at h
          by_cases c15 : v2 = 2
          · rw [if_pos c15] at h
            refine e_sw (t := 82) (o := 60) rfl (by decide) (xsw_n c5 (xsw_n c10 (xsw_p c15))) rfl (xnm_no rfl) ?_
            refine e_aload_n rfl rfl rfl (xnm_no rfl) ?_
            refine e_getR (r := 10) rfl rfl rfl rfl rfl (xnm_no rfl) ?_
            refine e_getR (r := 11) rfl rfl rfl rfl rfl (xnm_no rfl) ?_
            refine e_iload_n rfl rfl (xnm_no rfl) ?_
            refine e_aload_n rfl rfl rfl (xnm_no rfl) ?_
            refine e_getR (r := 10) rfl rfl rfl rfl rfl (xnm_no rfl) ?_
            obtain ⟨w16, hw17, h⟩ := xbd_some h
            refine e_cIV (hc := hw17) (rest := [.int _, .ref 11]) rfl rfl rfl rfl rfl rfl rfl rfl (xnm_no rfl) ?_
            obtain ⟨w18, hw19, h⟩ := xbd_some h
            refine e_cIS (hc := hw19) (rest := []) rfl rfl rfl rfl rfl rfl rfl rfl (xnm_no rfl) ?_
            obtain ⟨w20, hw21, h⟩ := xbd_some h
            refine e_cIS (hc := hw21) (rest := []) rfl rfl rfl rfl rfl rfl rfl rfl (xnm_no rfl) ?_
            cases h
            exact e_retI rfl rfl
          · rw [if_neg c15] at h
            by_cases c22 : v2 = 3
            · rw [if_pos c22] at h
              refine e_sw (t := 104) (o := 82) rfl (by decide) (xsw_n c5 (xsw_n c10 (xsw_n c15 (xsw_p c22)))) rfl (xnm_no rfl) ?_
              refine e_aload_n rfl rfl rfl (xnm_no rfl) ?_
              refine e_getR (r := 10) rfl rfl rfl rfl rfl (xnm_no rfl) ?_
              refine e_getR (r := 11) rfl rfl rfl rfl rfl (xnm_no rfl) ?_
              refine e_iload_n rfl rfl (xnm_no rfl) ?_
              obtain ⟨w23, hw24, h⟩ := xbd_some h
              refine e_cIS (hc := hw24) (rest := []) rfl rfl rfl rfl rfl rfl rfl rfl (xnm_no rfl) ?_
              obtain ⟨w25, hw26, h⟩ := xbd_some h
              refine e_cIS (hc := hw26) (rest := []) rfl rfl rfl rfl rfl rfl rfl rfl (xnm_no rfl) ?_
              cases h
              exact e_retI rfl rfl
            · rw [if_neg c22] at h
              refine e_sw (t := 119) (o := 97) rfl (by decide) (xsw_n c5 (xsw_n c10 (xsw_n c15 (xsw_n c22 xsw_d)))) rfl (xnm_no rfl) ?_
              refine e_iconst (x := -1) rfl (by decide) (xnm_no rfl) ?_
              cases h
              exact e_retI rfl rfl
    · refine e_iconst (x := -1) rfl (by decide) (xnm_no rfl) ?_
      cases h
      exact e_retI rfl rfl
