set_option maxRecDepth 4000 in
theorem fX5_solve_123_109_i (v1 : Int32) (m : xmm) {z : xmm} (h : (xlt (xwi m 123 6 (if (8 : Int32) < v1 then (8 : Int32) else v1)) fun (m1 : xmm) => bX5_solve_123_109_12 (0 : Int32) m1) = some z) : fX5_solve_123_109 v1 m = some z := by
  refine xstV ?_
  show xT 43 3 0 [(0, .ref 123), (1, .int v1), (2, .ref 109)] [] m (none, z)
  refine e_aload_n rfl rfl rfl (xnm_no rfl) ?_
  refine e_iload_n rfl rfl (xnm_no rfl) ?_
  refine e_bipush (x := 8) rfl (by decide) (xnm_no rfl) ?_
  refine e_min rfl rfl rfl (xnm_no rfl) ?_
  refine e_putI rfl rfl rfl rfl (xnm_no rfl) ?_
  replace h := xlt_b h
  refine e_iconst (x := 0) rfl (by decide) (xnm_no rfl) ?_
  refine e_istore_n rfl rfl rfl ?_
  exact xlfV h
set_option maxRecDepth 4000 in
theorem bX5_solve_123_109_12_i (v3 : Int32) (m : xmm) {z : xmm} (h : (if (8 : Int32) ≤ v3 then bX5_solve_123_109_52 (0 : Int32) m else xgd (xinb 8 v3) (xlt (xwi m 124 (v3).toNatClampNeg (m.1 114 (v3).toNatClampNeg)) fun (m2 : xmm) => xlt (xwi m2 125 (v3).toNatClampNeg (0 : Int32)) fun (m3 : xmm) => xlt (xwi m3 126 (v3).toNatClampNeg (0 : Int32)) fun (m4 : xmm) => bX5_solve_123_109_12 (v3 + (1 : Int32)) m4)) = some z) : bX5_solve_123_109_12 v3 m = some z := by
  refine xstV ?_
  show xT 43 3 12 [(0, .ref 123), (2, .ref 109), (3, .int v3)] [] m (none, z)
  refine e_iload_n rfl rfl (xnm_no rfl) ?_
  refine e_bipush (x := 8) rfl (by decide) (xnm_no rfl) ?_
  refine e_icmp_ge (t := 50) rfl rfl (xnm_no rfl) (xnm_no rfl) h (fun h => ?_) (fun h => ?_)
  · refine e_iconst (x := 0) rfl (by decide) (xnm_no rfl) ?_
    refine e_istore_n rfl rfl rfl ?_
    exact xlfV h
  · refine e_aload_n rfl rfl rfl (xnm_no rfl) ?_
    refine e_getR (r := 124) rfl rfl rfl rfl rfl (xnm_no rfl) ?_
    refine e_iload_n rfl rfl (xnm_no rfl) ?_
    refine e_aload_n rfl rfl rfl (xnm_no rfl) ?_
    refine e_getR (r := 114) rfl rfl rfl rfl rfl (xnm_no rfl) ?_
    refine e_iload_n rfl rfl (xnm_no rfl) ?_
    obtain ⟨g1, h⟩ := xgd_some h
    refine e_iald rfl g1 (xnm_no rfl) ?_
    refine e_iast rfl g1 (xnm_no rfl) ?_
    replace h := xlt_b h
    refine e_aload_n rfl rfl rfl (xnm_no rfl) ?_
    refine e_getR (r := 125) rfl rfl rfl rfl rfl (xnm_no rfl) ?_
    refine e_iload_n rfl rfl (xnm_no rfl) ?_
    refine e_iconst (x := 0) rfl (by decide) (xnm_no rfl) ?_
    refine e_iast rfl g1 (xnm_no rfl) ?_
    replace h := xlt_b h
    refine e_aload_n rfl rfl rfl (xnm_no rfl) ?_
    refine e_getR (r := 126) rfl rfl rfl rfl rfl (xnm_no rfl) ?_
    refine e_iload_n rfl rfl (xnm_no rfl) ?_
    refine e_iconst (x := 0) rfl (by decide) (xnm_no rfl) ?_
    refine e_iast rfl g1 (xnm_no rfl) ?_
    replace h := xlt_b h
    refine e_iinc (y := 1) rfl rfl rfl (by decide) (xnm_no rfl) ?_
    refine e_goto (t := 12) rfl rfl rfl ?_
    exact xlfV h
set_option maxRecDepth 4000 in
theorem bX5_solve_123_109_52_i (v3 : Int32) (m : xmm) {z : xmm} (h : (if (64 : Int32) ≤ v3 then bX5_solve_123_109_95 (0 : Int32) m else (fX11_isArrow 124 v3 m).bind fun (w1 : Int32 × xmm) => if w1.1 = 0 then bX5_solve_123_109_52 (v3 + (1 : Int32)) w1.2 else xgd (xinb 8 (v3 - v3 / (8 : Int32) * (8 : Int32))) (xlt (xwi w1.2 125 ((v3 - v3 / (8 : Int32) * (8 : Int32))).toNatClampNeg ((w1.2.1 125 ((v3 - v3 / (8 : Int32) * (8 : Int32))).toNatClampNeg) ||| ((1 : Int32) <<< ((v3 / (8 : Int32)) &&& 31)))) fun (m4 : xmm) => bX5_solve_123_109_52 (v3 + (1 : Int32)) m4)) = some z) : bX5_solve_123_109_52 v3 m = some z := by
  refine xstV ?_
  show xT 43 3 52 [(0, .ref 123), (3, .int v3)] [] m (none, z)
  refine e_iload_n rfl rfl (xnm_no rfl) ?_
  refine e_bipush (x := 64) rfl (by decide) (xnm_no rfl) ?_
  refine e_icmp_ge (t := 93) rfl rfl (xnm_no rfl) (xnm_no rfl) h (fun h => ?_) (fun h => ?_)
  · refine e_iconst (x := 0) rfl (by decide) (xnm_no rfl) ?_
    refine e_istore_n rfl rfl rfl ?_
    exact xlfV h
  · refine e_aload_n rfl rfl rfl (xnm_no rfl) ?_
    refine e_getR (r := 124) rfl rfl rfl rfl rfl (xnm_no rfl) ?_
    refine e_iload_n rfl rfl (xnm_no rfl) ?_
    obtain ⟨w1, hw2, h⟩ := xbd_some h
    refine e_cIS (hc := hw2) (rest := []) rfl rfl rfl rfl rfl rfl rfl rfl (xnm_no rfl) ?_
    refine e_if_eq (t := 87) rfl rfl (xnm_no rfl) (xnm_no rfl) h (fun h => ?_) (fun h => ?_)
    · refine e_iinc (y := 1) rfl rfl rfl (by decide) (xnm_no rfl) ?_
      refine e_goto (t := 52) rfl rfl rfl ?_
      exact xlfV h
    · refine e_aload_n rfl rfl rfl (xnm_no rfl) ?_
      refine e_getR (r := 125) rfl rfl rfl rfl rfl (xnm_no rfl) ?_
      refine e_iload_n rfl rfl (xnm_no rfl) ?_
      refine e_bipush (x := 8) rfl (by decide) (xnm_no rfl) ?_
      refine e_irem rfl (by decide) (xnm_no rfl) ?_
      refine e_dup2 rfl rfl rfl (xnm_no rfl) ?_
      obtain ⟨g3, h⟩ := xgd_some h
      refine e_iald rfl g3 (xnm_no rfl) ?_
      refine e_iconst (x := 1) rfl (by decide) (xnm_no rfl) ?_
      refine e_iload_n rfl rfl (xnm_no rfl) ?_
      refine e_bipush (x := 8) rfl (by decide) (xnm_no rfl) ?_
      refine e_idiv rfl (by decide) (xnm_no rfl) ?_
      refine e_ishl rfl (xnm_no rfl) ?_
      refine e_ior rfl (xnm_no rfl) ?_
      refine e_iast rfl g3 (xnm_no rfl) ?_
      replace h := xlt_b h
      refine e_iinc (y := 1) rfl rfl rfl (by decide) (xnm_no rfl) ?_
      refine e_goto (t := 52) rfl rfl rfl ?_
      exact xlfV h
set_option maxRecDepth 4000 in
theorem bX5_solve_123_109_95_i (v3 : Int32) (m : xmm) {z : xmm} (h : (if (m.1 123 6) ≤ v3 then (fX5_countWaysOn_123 m).bind fun (w1 : xmm) => some w1 else (fX5_raiseLevels_123 m).bind fun (w3 : xmm) => bX5_solve_123_109_95 (v3 + (1 : Int32)) w3) = some z) : bX5_solve_123_109_95 v3 m = some z := by
  refine xstV ?_
  show xT 43 3 95 [(0, .ref 123), (3, .int v3)] [] m (none, z)
  refine e_iload_n rfl rfl (xnm_no rfl) ?_
  refine e_aload_n rfl rfl rfl (xnm_no rfl) ?_
  refine e_getI rfl rfl rfl rfl (xnm_no rfl) ?_
  refine e_icmp_ge (t := 113) rfl rfl (xnm_no rfl) (xnm_no rfl) h (fun h => ?_) (fun h => ?_)
  · refine e_aload_n rfl rfl rfl (xnm_no rfl) ?_
    obtain ⟨w1, hw2, h⟩ := xbd_some h
    refine e_cVV (hc := hw2) (rest := []) rfl rfl rfl rfl rfl rfl rfl rfl (xnm_no rfl) ?_
    cases h
    exact e_retV rfl rfl
  · refine e_aload_n rfl rfl rfl (xnm_no rfl) ?_
    obtain ⟨w3, hw4, h⟩ := xbd_some h
    refine e_cVV (hc := hw4) (rest := []) rfl rfl rfl rfl rfl rfl rfl rfl (xnm_no rfl) ?_
    refine e_iinc (y := 1) rfl rfl rfl (by decide) (xnm_no rfl) ?_
    refine e_goto (t := 95) rfl rfl rfl ?_
    exact xlfV h
set_option maxRecDepth 4000 in
theorem fX1_isOrdered_103_i (m : xmm) {z : Int32 × xmm} (h : (if (m.1 103 4) = 0 then some ((1 : Int32), m) else some ((0 : Int32), m)) = some z) : fX1_isOrdered_103 m = some z := by
  refine xstI ?_
  show xT 9 0 0 [(0, .ref 103)] [] m (some (.int z.1), z.2)
  refine e_aload_n rfl rfl rfl (xnm_no rfl) ?_
  refine e_getI rfl rfl rfl rfl (xnm_no rfl) ?_
  refine e_if_ne (t := 11) rfl rfl (xnm_no rfl) (xnm_no rfl) h (fun h => ?_) (fun h => ?_)
  · refine e_iconst (x := 0) rfl (by decide) (xnm_no rfl) ?_
    cases h
    exact e_retI rfl (by decide)
  · refine e_iconst (x := 1) rfl (by decide) (xnm_no rfl) ?_
    refine e_goto (t := 12) rfl rfl (xnm_no rfl) ?_
    cases h
    exact e_retI rfl (by decide)
set_option maxRecDepth 4000 in
theorem fX6_reach_117_i (v1 : Int32) (v2 : Int32) (m : xmm) {z : xmm} (h : (xgd (xinb 64 v1) (if (m.1 118 (v1).toNatClampNeg) = (-1 : Int32) then if (64 : Int32) ≤ (m.1 117 2) then some m else xlt (xwi m 118 (v1).toNatClampNeg v2) fun (m2 : xmm) => xgd (xinb 64 (m2.1 117 2)) (xlt (xwi m2 119 ((m2.1 117 2)).toNatClampNeg v1) fun (m4 : xmm) => xlt (xwi m4 117 2 ((m4.1 117 2) + (1 : Int32))) fun (m5 : xmm) => some m5) else some m)) = some z) : fX6_reach_117 v1 v2 m = some z := by
  refine xstV ?_
  show xT 68 0 0 [(0, .ref 117), (1, .int v1), (2, .int v2)] [] m (none, z)
  refine e_aload_n rfl rfl rfl (xnm_no rfl) ?_
  refine e_getR (r := 118) rfl rfl rfl rfl rfl (xnm_no rfl) ?_
  refine e_iload_n rfl rfl (xnm_no rfl) ?_
  obtain ⟨g1, h⟩ := xgd_some h
  refine e_iald rfl g1 (xnm_no rfl) ?_
  refine e_iconst (x := -1) rfl (by decide) (xnm_no rfl) ?_
  refine e_icmp_ne (t := 46) rfl rfl (xnm_no rfl) (xnm_no rfl) h (fun h => ?_) (fun h => ?_)
  · cases h
    exact e_retV rfl rfl
  · refine e_aload_n rfl rfl rfl (xnm_no rfl) ?_
    refine e_getI rfl rfl rfl rfl (xnm_no rfl) ?_
    refine e_bipush (x := 64) rfl (by decide) (xnm_no rfl) ?_
    refine e_icmp_ge (t := 46) rfl rfl (xnm_no rfl) (xnm_no rfl) h (fun h => ?_) (fun h => ?_)
    · cases h
      exact e_retV rfl rfl
    · refine e_aload_n rfl rfl rfl (xnm_no rfl) ?_
      refine e_getR (r := 118) rfl rfl rfl rfl rfl (xnm_no rfl) ?_
      refine e_iload_n rfl rfl (xnm_no rfl) ?_
      refine e_iload_n rfl rfl (xnm_no rfl) ?_
      refine e_iast rfl g1 (xnm_no rfl) ?_
      replace h := xlt_b h
      refine e_aload_n rfl rfl rfl (xnm_no rfl) ?_
      refine e_getR (r := 119) rfl rfl rfl rfl rfl (xnm_no rfl) ?_
      refine e_aload_n rfl rfl rfl (xnm_no rfl) ?_
      refine e_getI rfl rfl rfl rfl (xnm_no rfl) ?_
      refine e_iload_n rfl rfl (xnm_no rfl) ?_
      obtain ⟨g3, h⟩ := xgd_some h
      refine e_iast rfl g3 (xnm_no rfl) ?_
      replace h := xlt_b h
      refine e_aload_n rfl rfl rfl (xnm_no rfl) ?_
      refine e_dup rfl rfl (xnm_no rfl) ?_
      refine e_getI rfl rfl rfl rfl (xnm_no rfl) ?_
      refine e_iconst (x := 1) rfl (by decide) (xnm_no rfl) ?_
      refine e_iadd rfl (xnm_no rfl) ?_
      refine e_putI rfl rfl rfl rfl (xnm_no rfl) ?_
      replace h := xlt_b h
      cases h
      exact e_retV rfl rfl
set_option maxRecDepth 4000 in
theorem fX6_reachForced_117_i (v1 : Nat) (v2 : Int32) (m : xmm) {z : xmm} (h : (xgd (!(Nat.beq v1 1999)) (xgd (xia 1 v1 (v2 / (8 : Int32))) (xgd (xia 1 v1 (v2 - v2 / (8 : Int32) * (8 : Int32))) (xlt (((m.1 v1 ((v2 / (8 : Int32))).toNatClampNeg) &&& ((m.1 v1 ((v2 - v2 / (8 : Int32) * (8 : Int32))).toNatClampNeg) ^^^ (-1 : Int32))) &&& (((1 : Int32) <<< ((v2 - v2 / (8 : Int32) * (8 : Int32)) &&& 31)) ^^^ (-1 : Int32))) fun (x4 : Int32) => xlt (((m.1 v1 ((v2 - v2 / (8 : Int32) * (8 : Int32))).toNatClampNeg) &&& ((m.1 v1 ((v2 / (8 : Int32))).toNatClampNeg) ^^^ (-1 : Int32))) &&& (((1 : Int32) <<< ((v2 / (8 : Int32)) &&& 31)) ^^^ (-1 : Int32))) fun (x5 : Int32) => bX6_reachForced_117_51 v2 (v2 / (8 : Int32)) (v2 - v2 / (8 : Int32) * (8 : Int32)) x4 x5 (0 : Int32) m)))) = some z) : fX6_reachForced_117 v1 v2 m = some z := by
  refine xstV ?_
  show xT 67 1 0 [(0, .ref 117), (1, .ref v1), (2, .int v2)] [] m (none, z)
  refine e_iload_n rfl rfl (xnm_no rfl) ?_
  refine e_bipush (x := 8) rfl (by decide) (xnm_no rfl) ?_
  refine e_idiv rfl (by decide) (xnm_no rfl) ?_
  refine e_istore_n rfl rfl (xnm_no rfl) ?_
  refine e_iload_n rfl rfl (xnm_no rfl) ?_
  refine e_bipush (x := 8) rfl (by decide) (xnm_no rfl) ?_
  refine e_irem rfl (by decide) (xnm_no rfl) ?_
  refine e_istore rfl rfl (xnm_no rfl) ?_
  obtain ⟨g1, h⟩ := xgd_some h
  refine e_aload_n rfl rfl (xnb g1) (xnm_no rfl) ?_
  refine e_iload_n rfl rfl (xnm_no rfl) ?_
  obtain ⟨g2, h⟩ := xgd_some h
  refine e_iald rfl g2 (xnm_no rfl) ?_
  refine e_aload_n rfl rfl (xnb g1) (xnm_no rfl) ?_
  refine e_iload rfl rfl (xnm_no rfl) ?_
  obtain ⟨g3, h⟩ := xgd_some h
  refine e_iald rfl g3 (xnm_no rfl) ?_
  refine e_iconst (x := -1) rfl (by decide) (xnm_no rfl) ?_
  refine e_ixor rfl (xnm_no rfl) ?_
  refine e_iand rfl (xnm_no rfl) ?_
  refine e_iconst (x := 1) rfl (by decide) (xnm_no rfl) ?_
  refine e_iload rfl rfl (xnm_no rfl) ?_
  refine e_ishl rfl (xnm_no rfl) ?_
  refine e_iconst (x := -1) rfl (by decide) (xnm_no rfl) ?_
  refine e_ixor rfl (xnm_no rfl) ?_
  refine e_iand rfl (xnm_no rfl) ?_
  replace h := xlt_b h
  refine e_istore rfl rfl (xnm_no rfl) ?_
  refine e_aload_n rfl rfl (xnb g1) (xnm_no rfl) ?_
  refine e_iload rfl rfl (xnm_no rfl) ?_
  refine e_iald rfl g3 (xnm_no rfl) ?_
  refine e_aload_n rfl rfl (xnb g1) (xnm_no rfl) ?_
  refine e_iload_n rfl rfl (xnm_no rfl) ?_
  refine e_iald rfl g2 (xnm_no rfl) ?_
  refine e_iconst (x := -1) rfl (by decide) (xnm_no rfl) ?_
  refine e_ixor rfl (xnm_no rfl) ?_
  refine e_iand rfl (xnm_no rfl) ?_
  refine e_iconst (x := 1) rfl (by decide) (xnm_no rfl) ?_
  refine e_iload_n rfl rfl (xnm_no rfl) ?_
  refine e_ishl rfl (xnm_no rfl) ?_
  refine e_iconst (x := -1) rfl (by decide) (xnm_no rfl) ?_
  refine e_ixor rfl (xnm_no rfl) ?_
  refine e_iand rfl (xnm_no rfl) ?_
  replace h := xlt_b h
  refine e_istore rfl rfl (xnm_no rfl) ?_
  refine e_iconst (x := 0) rfl (by decide) (xnm_no rfl) ?_
  refine e_istore rfl rfl rfl ?_
  exact xlfV h
set_option maxRecDepth 4000 in
theorem bX6_reachForced_117_51_i (v2 : Int32) (v3 : Int32) (v4 : Int32) (v5 : Int32) (v6 : Int32) (v7 : Int32) (m : xmm) {z : xmm} (h : (if (8 : Int32) ≤ v7 then some m else (fX11_contains v5 v7 m).bind fun (w1 : Int32 × xmm) => if w1.1 = 0 then bX6_reachForced_117_86 v2 v3 v4 v5 v6 v7 w1.2 else (fX11_arrowFrom v3 v7 w1.2).bind fun (w3 : Int32 × xmm) => xgd (xinb 64 v2) ((fX6_reach_117 w3.1 ((w3.2.1 118 (v2).toNatClampNeg) + (1 : Int32)) w3.2).bind fun (w6 : xmm) => bX6_reachForced_117_86 v2 v3 v4 v5 v6 v7 w6)) = some z) : bX6_reachForced_117_51 v2 v3 v4 v5 v6 v7 m = some z := by
  refine xstV ?_
  show xT 67 1 51 [(0, .ref 117), (2, .int v2), (3, .int v3), (4, .int v4), (5, .int v5), (6, .int v6), (7, .int v7)] [] m (none, z)
  refine e_iload rfl rfl (xnm_no rfl) ?_
  refine e_bipush (x := 8) rfl (by decide) (xnm_no rfl) ?_
  refine e_icmp_ge (t := 121) rfl rfl (xnm_no rfl) (xnm_no rfl) h (fun h => ?_) (fun h => ?_)
  · cases h
    exact e_retV rfl rfl
  · refine e_iload rfl rfl (xnm_no rfl) ?_
    refine e_iload rfl rfl (xnm_no rfl) ?_
    obtain ⟨w1, hw2, h⟩ := xbd_some h
    refine e_cIS (hc := hw2) (rest := []) rfl rfl rfl rfl rfl rfl rfl rfl (xnm_no rfl) ?_
    refine e_if_eq (t := 86) rfl rfl rfl (xnm_no rfl) h (fun h => ?_) (fun h => ?_)
    · exact xlfV h
    · refine e_aload_n rfl rfl rfl (xnm_no rfl) ?_
      refine e_iload_n rfl rfl (xnm_no rfl) ?_
      refine e_iload rfl rfl (xnm_no rfl) ?_
      obtain ⟨w3, hw4, h⟩ := xbd_some h
      refine e_cIS (hc := hw4) (rest := [.ref 117]) rfl rfl rfl rfl rfl rfl rfl rfl (xnm_no rfl) ?_
      refine e_aload_n rfl rfl rfl (xnm_no rfl) ?_
      refine e_getR (r := 118) rfl rfl rfl rfl rfl (xnm_no rfl) ?_
      refine e_iload_n rfl rfl (xnm_no rfl) ?_
      obtain ⟨g5, h⟩ := xgd_some h
      refine e_iald rfl g5 (xnm_no rfl) ?_
      refine e_iconst (x := 1) rfl (by decide) (xnm_no rfl) ?_
      refine e_iadd rfl (xnm_no rfl) ?_
      obtain ⟨w6, hw7, h⟩ := xbd_some h
      refine e_cVV (hc := hw7) (rest := []) rfl rfl rfl rfl rfl rfl rfl rfl rfl ?_
      exact xlfV h
set_option maxRecDepth 4000 in
theorem bX6_reachForced_117_86_i (v2 : Int32) (v3 : Int32) (v4 : Int32) (v5 : Int32) (v6 : Int32) (v7 : Int32) (m : xmm) {z : xmm} (h : ((fX11_contains v6 v7 m).bind fun (w1 : Int32 × xmm) => if w1.1 = 0 then bX6_reachForced_117_51 v2 v3 v4 v5 v6 (v7 + (1 : Int32)) w1.2 else (fX11_arrowFrom v7 v4 w1.2).bind fun (w3 : Int32 × xmm) => xgd (xinb 64 v2) ((fX6_reach_117 w3.1 ((w3.2.1 118 (v2).toNatClampNeg) + (1 : Int32)) w3.2).bind fun (w6 : xmm) => bX6_reachForced_117_51 v2 v3 v4 v5 v6 (v7 + (1 : Int32)) w6)) = some z) : bX6_reachForced_117_86 v2 v3 v4 v5 v6 v7 m = some z := by
  refine xstV ?_
  show xT 67 1 86 [(0, .ref 117), (2, .int v2), (3, .int v3), (4, .int v4), (5, .int v5), (6, .int v6), (7, .int v7)] [] m (none, z)
  refine e_iload rfl rfl (xnm_no rfl) ?_
  refine e_iload rfl rfl (xnm_no rfl) ?_
  obtain ⟨w1, hw2, h⟩ := xbd_some h
  refine e_cIS (hc := hw2) (rest := []) rfl rfl rfl rfl rfl rfl rfl rfl (xnm_no rfl) ?_
  refine e_if_eq (t := 115) rfl rfl (xnm_no rfl) (xnm_no rfl) h (fun h => ?_) (fun h => ?_)
  · refine e_iinc (y := 1) rfl rfl rfl (by decide) (xnm_no rfl) ?_
    refine e_goto (t := 51) rfl rfl rfl ?_
    exact xlfV h
  · refine e_aload_n rfl rfl rfl (xnm_no rfl) ?_
    refine e_iload rfl rfl (xnm_no rfl) ?_
    refine e_iload rfl rfl (xnm_no rfl) ?_
    obtain ⟨w3, hw4, h⟩ := xbd_some h
    refine e_cIS (hc := hw4) (rest := [.ref 117]) rfl rfl rfl rfl rfl rfl rfl rfl (xnm_no rfl) ?_
    refine e_aload_n rfl rfl rfl (xnm_no rfl) ?_
    refine e_getR (r := 118) rfl rfl rfl rfl rfl (xnm_no rfl) ?_
    refine e_iload_n rfl rfl (xnm_no rfl) ?_
    obtain ⟨g5, h⟩ := xgd_some h
    refine e_iald rfl g5 (xnm_no rfl) ?_
    refine e_iconst (x := 1) rfl (by decide) (xnm_no rfl) ?_
    refine e_iadd rfl (xnm_no rfl) ?_
    obtain ⟨w6, hw7, h⟩ := xbd_some h
    refine e_cVV (hc := hw7) (rest := []) rfl rfl rfl rfl rfl rfl rfl rfl (xnm_no rfl) ?_
    refine e_iinc (y := 1) rfl rfl rfl (by decide) (xnm_no rfl) ?_
    refine e_goto (t := 51) rfl rfl rfl ?_
    exact xlfV h
set_option maxRecDepth 4000 in
theorem fX6_spread_117_i (v1 : Nat) (v2 : Int32) (m : xmm) {z : xmm} (h : (bX6_spread_117_2 v1 v2 (0 : Int32) m) = some z) : fX6_spread_117 v1 v2 m = some z := by
  refine xstV ?_
  show xT 66 2 0 [(0, .ref 117), (1, .ref v1), (2, .int v2)] [] m (none, z)
  refine e_iconst (x := 0) rfl (by decide) (xnm_no rfl) ?_
  refine e_istore_n rfl rfl rfl ?_
  exact xlfV h
set_option maxRecDepth 4000 in
theorem bX6_spread_117_2_i (v1 : Nat) (v2 : Int32) (v3 : Int32) (m : xmm) {z : xmm} (h : (if (64 : Int32) ≤ v3 then xlt (xwi m 117 2 (0 : Int32)) fun (m1 : xmm) => (fX6_reach_117 v2 (0 : Int32) m1).bind fun (w2 : xmm) => bX6_spread_117_34 v1 (0 : Int32) w2 else xgd (xinb 64 v3) (xlt (xwi m 118 (v3).toNatClampNeg (-1 : Int32)) fun (m5 : xmm) => bX6_spread_117_2 v1 v2 (v3 + (1 : Int32)) m5)) = some z) : bX6_spread_117_2 v1 v2 v3 m = some z := by
  refine xstV ?_
  show xT 66 2 2 [(0, .ref 117), (1, .ref v1), (2, .int v2), (3, .int v3)] [] m (none, z)
  refine e_iload_n rfl rfl (xnm_no rfl) ?_
  refine e_bipush (x := 64) rfl (by decide) (xnm_no rfl) ?_
  refine e_icmp_ge (t := 21) rfl rfl (xnm_no rfl) (xnm_no rfl) h (fun h => ?_) (fun h => ?_)
  · refine e_aload_n rfl rfl rfl (xnm_no rfl) ?_
    refine e_iconst (x := 0) rfl (by decide) (xnm_no rfl) ?_
    refine e_putI rfl rfl rfl rfl (xnm_no rfl) ?_
    replace h := xlt_b h
    refine e_aload_n rfl rfl rfl (xnm_no rfl) ?_
    refine e_iload_n rfl rfl (xnm_no rfl) ?_
    refine e_iconst (x := 0) rfl (by decide) (xnm_no rfl) ?_
    obtain ⟨w2, hw3, h⟩ := xbd_some h
    refine e_cVV (hc := hw3) (rest := []) rfl rfl rfl rfl rfl rfl rfl rfl (xnm_no rfl) ?_
    refine e_iconst (x := 0) rfl (by decide) (xnm_no rfl) ?_
    refine e_istore_n rfl rfl rfl ?_
    exact xlfV h
  · refine e_aload_n rfl rfl rfl (xnm_no rfl) ?_
    refine e_getR (r := 118) rfl rfl rfl rfl rfl (xnm_no rfl) ?_
    refine e_iload_n rfl rfl (xnm_no rfl) ?_
    refine e_iconst (x := -1) rfl (by decide) (xnm_no rfl) ?_
    obtain ⟨g4, h⟩ := xgd_some h
    refine e_iast rfl g4 (xnm_no rfl) ?_
    replace h := xlt_b h
    refine e_iinc (y := 1) rfl rfl rfl (by decide) (xnm_no rfl) ?_
    refine e_goto (t := 2) rfl rfl rfl ?_
    exact xlfV h
set_option maxRecDepth 4000 in
theorem bX6_spread_117_34_i (v1 : Nat) (v3 : Int32) (m : xmm) {z : xmm} (h : (if (m.1 117 2) ≤ v3 then some m else if (64 : Int32) ≤ v3 then some m else xgd (!(Nat.beq v1 1999)) (xgd (xinb 64 v3) ((fX6_reachForced_117 v1 (m.1 119 (v3).toNatClampNeg) m).bind fun (w3 : xmm) => bX6_spread_117_34 v1 (v3 + (1 : Int32)) w3))) = some z) : bX6_spread_117_34 v1 v3 m = some z := by
  refine xstV ?_
  show xT 66 2 34 [(0, .ref 117), (1, .ref v1), (3, .int v3)] [] m (none, z)
  refine e_iload_n rfl rfl (xnm_no rfl) ?_
  refine e_aload_n rfl rfl rfl (xnm_no rfl) ?_
  refine e_getI rfl rfl rfl rfl (xnm_no rfl) ?_
  refine e_icmp_ge (t := 65) rfl rfl (xnm_no rfl) (xnm_no rfl) h (fun h => ?_) (fun h => ?_)
  · cases h
    exact e_retV rfl rfl
  · refine e_iload_n rfl rfl (xnm_no rfl) ?_
    refine e_bipush (x := 64) rfl (by decide) (xnm_no rfl) ?_
    refine e_icmp_ge (t := 65) rfl rfl (xnm_no rfl) (xnm_no rfl) h (fun h => ?_) (fun h => ?_)
    · cases h
      exact e_retV rfl rfl
    · refine e_aload_n rfl rfl rfl (xnm_no rfl) ?_
      obtain ⟨g1, h⟩ := xgd_some h
      refine e_aload_n rfl rfl (xnb g1) (xnm_no rfl) ?_
      refine e_aload_n rfl rfl rfl (xnm_no rfl) ?_
      refine e_getR (r := 119) rfl rfl rfl rfl rfl (xnm_no rfl) ?_
      refine e_iload_n rfl rfl (xnm_no rfl) ?_
      obtain ⟨g2, h⟩ := xgd_some h
      refine e_iald rfl g2 (xnm_no rfl) ?_
      obtain ⟨w3, hw4, h⟩ := xbd_some h
      refine e_cVV (hc := hw4) (rest := []) rfl rfl rfl rfl rfl rfl rfl rfl (xnm_no rfl) ?_
      refine e_iinc (y := 1) rfl rfl rfl (by decide) (xnm_no rfl) ?_
      refine e_goto (t := 34) rfl rfl rfl ?_
      exact xlfV h
set_option maxRecDepth 4000 in
theorem fX0_takeClass_116_i (v1 : Int32) (m : xmm) {z : xmm} (h : ((fX6_spread_117 120 v1 m).bind fun (w1 : xmm) => bX0_takeClass_116_14 (0 : Int32) w1) = some z) : fX0_takeClass_116 v1 m = some z := by
  refine xstV ?_
  show xT 2 3 0 [(0, .ref 116), (1, .int v1)] [] m (none, z)
  refine e_aload_n rfl rfl rfl (xnm_no rfl) ?_
  refine e_getR (r := 117) rfl rfl rfl rfl rfl (xnm_no rfl) ?_
  refine e_aload_n rfl rfl rfl (xnm_no rfl) ?_
  refine e_getR (r := 120) rfl rfl rfl rfl rfl (xnm_no rfl) ?_
  refine e_iload_n rfl rfl (xnm_no rfl) ?_
  obtain ⟨w1, hw2, h⟩ := xbd_some h
  refine e_cVV (hc := hw2) (rest := []) rfl rfl rfl rfl rfl rfl rfl rfl (xnm_no rfl) ?_
  refine e_iconst (x := 0) rfl (by decide) (xnm_no rfl) ?_
  refine e_istore_n rfl rfl rfl ?_
  exact xlfV h
set_option maxRecDepth 4000 in
theorem bX0_takeClass_116_14_i (v2 : Int32) (m : xmm) {z : xmm} (h : (if (m.1 117 2) ≤ v2 then xlt (xwi m 116 4 ((m.1 116 4) + (1 : Int32))) fun (m1 : xmm) => some m1 else xgd (xinb 64 v2) (xlt ((m.1 119 (v2).toNatClampNeg) - (m.1 119 (v2).toNatClampNeg) / (8 : Int32) * (8 : Int32)) fun (x3 : Int32) => xgd (xinb 8 ((m.1 119 (v2).toNatClampNeg) / (8 : Int32))) (xlt (xwi m 121 (((m.1 119 (v2).toNatClampNeg) / (8 : Int32))).toNatClampNeg ((m.1 121 (((m.1 119 (v2).toNatClampNeg) / (8 : Int32))).toNatClampNeg) ||| ((1 : Int32) <<< (x3 &&& 31)))) fun (m5 : xmm) => xgd (xinb 64 (m.1 119 (v2).toNatClampNeg)) (xlt (xwi m5 122 ((m.1 119 (v2).toNatClampNeg)).toNatClampNeg (m5.1 116 4)) fun (m7 : xmm) => (fX11_against (m.1 119 (v2).toNatClampNeg) m7).bind fun (w8 : Int32 × xmm) => xgd (xinb 64 w8.1) (xlt (xwi w8.2 122 (w8.1).toNatClampNeg (w8.2.1 116 4)) fun (m11 : xmm) => xlt (xwi m11 120 (((m.1 119 (v2).toNatClampNeg) / (8 : Int32))).toNatClampNeg ((m11.1 120 (((m.1 119 (v2).toNatClampNeg) / (8 : Int32))).toNatClampNeg) &&& (((1 : Int32) <<< (x3 &&& 31)) ^^^ (-1 : Int32)))) fun (m12 : xmm) => xgd (xinb 8 x3) (xlt (xwi m12 120 (x3).toNatClampNeg ((m12.1 120 (x3).toNatClampNeg) &&& (((1 : Int32) <<< (((m.1 119 (v2).toNatClampNeg) / (8 : Int32)) &&& 31)) ^^^ (-1 : Int32)))) fun (m14 : xmm) => bX0_takeClass_116_14 (v2 + (1 : Int32)) m14)))))) = some z) : bX0_takeClass_116_14 v2 m = some z := by
  refine xstV ?_
  show xT 2 3 14 [(0, .ref 116), (2, .int v2)] [] m (none, z)
  refine e_iload_n rfl rfl (xnm_no rfl) ?_
  refine e_aload_n rfl rfl rfl (xnm_no rfl) ?_
  refine e_getR (r := 117) rfl rfl rfl rfl rfl (xnm_no rfl) ?_
  refine e_getI rfl rfl rfl rfl (xnm_no rfl) ?_
  refine e_icmp_ge (t := 122) rfl rfl (xnm_no rfl) (xnm_no rfl) h (fun h => ?_) (fun h => ?_)
  · refine e_aload_n rfl rfl rfl (xnm_no rfl) ?_
    refine e_dup rfl rfl (xnm_no rfl) ?_
    refine e_getI rfl rfl rfl rfl (xnm_no rfl) ?_
    refine e_iconst (x := 1) rfl (by decide) (xnm_no rfl) ?_
    refine e_iadd rfl (xnm_no rfl) ?_
    refine e_putI rfl rfl rfl rfl (xnm_no rfl) ?_
    replace h := xlt_b h
    cases h
    exact e_retV rfl rfl
  · refine e_aload_n rfl rfl rfl (xnm_no rfl) ?_
    refine e_getR (r := 117) rfl rfl rfl rfl rfl (xnm_no rfl) ?_
    refine e_getR (r := 119) rfl rfl rfl rfl rfl (xnm_no rfl) ?_
    refine e_iload_n rfl rfl (xnm_no rfl) ?_
    obtain ⟨g2, h⟩ := xgd_some h
    refine e_iald rfl g2 (xnm_no rfl) ?_
    refine e_istore_n rfl rfl (xnm_no rfl) ?_
    refine e_iload_n rfl rfl (xnm_no rfl) ?_
    refine e_bipush (x := 8) rfl (by decide) (xnm_no rfl) ?_
    refine e_idiv rfl (by decide) (xnm_no rfl) ?_
    refine e_istore rfl rfl (xnm_no rfl) ?_
    refine e_iload_n rfl rfl (xnm_no rfl) ?_
    refine e_bipush (x := 8) rfl (by decide) (xnm_no rfl) ?_
    refine e_irem rfl (by decide) (xnm_no rfl) ?_
    replace h := xlt_b h
    refine e_istore rfl rfl (xnm_no rfl) ?_
    refine e_aload_n rfl rfl rfl (xnm_no rfl) ?_
    refine e_getR (r := 121) rfl rfl rfl rfl rfl (xnm_no rfl) ?_
    refine e_iload rfl rfl (xnm_no rfl) ?_
    refine e_dup2 rfl rfl rfl (xnm_no rfl) ?_
    obtain ⟨g4, h⟩ := xgd_some h
    refine e_iald rfl g4 (xnm_no rfl) ?_
    refine e_iconst (x := 1) rfl (by decide) (xnm_no rfl) ?_
    refine e_iload rfl rfl (xnm_no rfl) ?_
    refine e_ishl rfl (xnm_no rfl) ?_
    refine e_ior rfl (xnm_no rfl) ?_
    refine e_iast rfl g4 (xnm_no rfl) ?_
    replace h := xlt_b h
    refine e_aload_n rfl rfl rfl (xnm_no rfl) ?_
    refine e_getR (r := 122) rfl rfl rfl rfl rfl (xnm_no rfl) ?_
    refine e_iload_n rfl rfl (xnm_no rfl) ?_
    refine e_aload_n rfl rfl rfl (xnm_no rfl) ?_
    refine e_getI rfl rfl rfl rfl (xnm_no rfl) ?_
    obtain ⟨g6, h⟩ := xgd_some h
    refine e_iast rfl g6 (xnm_no rfl) ?_
    replace h := xlt_b h
    refine e_aload_n rfl rfl rfl (xnm_no rfl) ?_
    refine e_getR (r := 122) rfl rfl rfl rfl rfl (xnm_no rfl) ?_
    refine e_iload_n rfl rfl (xnm_no rfl) ?_
    obtain ⟨w8, hw9, h⟩ := xbd_some h
    refine e_cIS (hc := hw9) (rest := [.ref 122]) rfl rfl rfl rfl rfl rfl rfl rfl (xnm_no rfl) ?_
    refine e_aload_n rfl rfl rfl (xnm_no rfl) ?_
    refine e_getI rfl rfl rfl rfl (xnm_no rfl) ?_
    obtain ⟨g10, h⟩ := xgd_some h
    refine e_iast rfl g10 (xnm_no rfl) ?_
    replace h := xlt_b h
    refine e_aload_n rfl rfl rfl (xnm_no rfl) ?_
    refine e_getR (r := 120) rfl rfl rfl rfl rfl (xnm_no rfl) ?_
    refine e_iload rfl rfl (xnm_no rfl) ?_
    refine e_dup2 rfl rfl rfl (xnm_no rfl) ?_
    refine e_iald rfl g4 (xnm_no rfl) ?_
    refine e_iconst (x := 1) rfl (by decide) (xnm_no rfl) ?_
    refine e_iload rfl rfl (xnm_no rfl) ?_
    refine e_ishl rfl (xnm_no rfl) ?_
    refine e_iconst (x := -1) rfl (by decide) (xnm_no rfl) ?_
    refine e_ixor rfl (xnm_no rfl) ?_
    refine e_iand rfl (xnm_no rfl) ?_
    refine e_iast rfl g4 (xnm_no rfl) ?_
    replace h := xlt_b h
    refine e_aload_n rfl rfl rfl (xnm_no rfl) ?_
    refine e_getR (r := 120) rfl rfl rfl rfl rfl (xnm_no rfl) ?_
    refine e_iload rfl rfl (xnm_no rfl) ?_
    refine e_dup2 rfl rfl rfl (xnm_no rfl) ?_
    obtain ⟨g13, h⟩ := xgd_some h
    refine e_iald rfl g13 (xnm_no rfl) ?_
    refine e_iconst (x := 1) rfl (by decide) (xnm_no rfl) ?_
    refine e_iload rfl rfl (xnm_no rfl) ?_
    refine e_ishl rfl (xnm_no rfl) ?_
    refine e_iconst (x := -1) rfl (by decide) (xnm_no rfl) ?_
    refine e_ixor rfl (xnm_no rfl) ?_
    refine e_iand rfl (xnm_no rfl) ?_
    refine e_iast rfl g13 (xnm_no rfl) ?_
    replace h := xlt_b h
    refine e_iinc (y := 1) rfl rfl rfl (by decide) (xnm_no rfl) ?_
    refine e_goto (t := 14) rfl rfl rfl ?_
    exact xlfV h
set_option maxRecDepth 4000 in
theorem fX0_solve_116_i (v1 : Nat) (v2 : Int32) (m : xmm) {z : xmm} (h : (bX0_solve_116_2 v1 v2 (0 : Int32) m) = some z) : fX0_solve_116 v1 v2 m = some z := by
  refine xstV ?_
  show xT 1 4 0 [(0, .ref 116), (1, .ref v1), (2, .int v2)] [] m (none, z)
  refine e_iconst (x := 0) rfl (by decide) (xnm_no rfl) ?_
  refine e_istore_n rfl rfl rfl ?_
  exact xlfV h
set_option maxRecDepth 4000 in
theorem bX0_solve_116_2_i (v1 : Nat) (v2 : Int32) (v3 : Int32) (m : xmm) {z : xmm} (h : (if (8 : Int32) ≤ v3 then xlt (xwi m 116 4 (0 : Int32)) fun (m1 : xmm) => bX0_solve_116_37 v2 (0 : Int32) m1 else xgd (!(Nat.beq v1 1999)) (xgd (xia 1 v1 v3) (xgd (xinb 8 v3) (xlt (xwi m 120 (v3).toNatClampNeg (m.1 v1 (v3).toNatClampNeg)) fun (m5 : xmm) => xlt (xwi m5 121 (v3).toNatClampNeg (0 : Int32)) fun (m6 : xmm) => bX0_solve_116_2 v1 v2 (v3 + (1 : Int32)) m6)))) = some z) : bX0_solve_116_2 v1 v2 v3 m = some z := by
  refine xstV ?_
  show xT 1 4 2 [(0, .ref 116), (1, .ref v1), (2, .int v2), (3, .int v3)] [] m (none, z)
  refine e_iload_n rfl rfl (xnm_no rfl) ?_
  refine e_bipush (x := 8) rfl (by decide) (xnm_no rfl) ?_
  refine e_icmp_ge (t := 30) rfl rfl (xnm_no rfl) (xnm_no rfl) h (fun h => ?_) (fun h => ?_)
  · refine e_aload_n rfl rfl rfl (xnm_no rfl) ?_
    refine e_iconst (x := 0) rfl (by decide) (xnm_no rfl) ?_
    refine e_putI rfl rfl rfl rfl (xnm_no rfl) ?_
    replace h := xlt_b h
    refine e_iconst (x := 0) rfl (by decide) (xnm_no rfl) ?_
    refine e_istore_n rfl rfl rfl ?_
    exact xlfV h
  · refine e_aload_n rfl rfl rfl (xnm_no rfl) ?_
    refine e_getR (r := 120) rfl rfl rfl rfl rfl (xnm_no rfl) ?_
    refine e_iload_n rfl rfl (xnm_no rfl) ?_
    obtain ⟨g2, h⟩ := xgd_some h
    refine e_aload_n rfl rfl (xnb g2) (xnm_no rfl) ?_
    refine e_iload_n rfl rfl (xnm_no rfl) ?_
    obtain ⟨g3, h⟩ := xgd_some h
    refine e_iald rfl g3 (xnm_no rfl) ?_
    obtain ⟨g4, h⟩ := xgd_some h
    refine e_iast rfl g4 (xnm_no rfl) ?_
    replace h := xlt_b h
    refine e_aload_n rfl rfl rfl (xnm_no rfl) ?_
    refine e_getR (r := 121) rfl rfl rfl rfl rfl (xnm_no rfl) ?_
    refine e_iload_n rfl rfl (xnm_no rfl) ?_
    refine e_iconst (x := 0) rfl (by decide) (xnm_no rfl) ?_
    refine e_iast rfl g4 (xnm_no rfl) ?_
    replace h := xlt_b h
    refine e_iinc (y := 1) rfl rfl rfl (by decide) (xnm_no rfl) ?_
    refine e_goto (t := 2) rfl rfl rfl ?_
    exact xlfV h
set_option maxRecDepth 4000 in
theorem bX0_solve_116_37_i (v2 : Int32) (v3 : Int32) (m : xmm) {z : xmm} (h : (if (64 : Int32) ≤ v3 then some m else (fX11_isArrow 120 v3 m).bind fun (w1 : Int32 × xmm) => if w1.1 = 0 then bX0_solve_116_37 v2 (v3 + (1 : Int32)) w1.2 else if (w1.2.1 116 4) = 0 then if v2 = 0 then bX0_solve_116_70 v2 v3 (0 : Int32) w1.2 else bX0_solve_116_70 v2 v3 (1 : Int32) w1.2 else bX0_solve_116_70 v2 v3 (0 : Int32) w1.2) = some z) : bX0_solve_116_37 v2 v3 m = some z := by
  refine xstV ?_
  show xT 1 4 37 [(0, .ref 116), (2, .int v2), (3, .int v3)] [] m (none, z)
  refine e_iload_n rfl rfl (xnm_no rfl) ?_
  refine e_bipush (x := 64) rfl (by decide) (xnm_no rfl) ?_
  refine e_icmp_ge (t := 95) rfl rfl (xnm_no rfl) (xnm_no rfl) h (fun h => ?_) (fun h => ?_)
  · cases h
    exact e_retV rfl rfl
  · refine e_aload_n rfl rfl rfl (xnm_no rfl) ?_
    refine e_getR (r := 120) rfl rfl rfl rfl rfl (xnm_no rfl) ?_
    refine e_iload_n rfl rfl (xnm_no rfl) ?_
    obtain ⟨w1, hw2, h⟩ := xbd_some h
    refine e_cIS (hc := hw2) (rest := []) rfl rfl rfl rfl rfl rfl rfl rfl (xnm_no rfl) ?_
    refine e_if_eq (t := 89) rfl rfl (xnm_no rfl) (xnm_no rfl) h (fun h => ?_) (fun h => ?_)
    · refine e_iinc (y := 1) rfl rfl rfl (by decide) (xnm_no rfl) ?_
      refine e_goto (t := 37) rfl rfl rfl ?_
      exact xlfV h
    · refine e_aload_n rfl rfl rfl (xnm_no rfl) ?_
      refine e_getI rfl rfl rfl rfl (xnm_no rfl) ?_
      refine e_if_ne (t := 69) rfl rfl (xnm_no rfl) (xnm_no rfl) h (fun h => ?_) (fun h => ?_)
      · refine e_iconst (x := 0) rfl (by decide) rfl ?_
        exact xlfV h
      · refine e_iload_n rfl rfl (xnm_no rfl) ?_
        refine e_if_eq (t := 69) rfl rfl (xnm_no rfl) (xnm_no rfl) h (fun h => ?_) (fun h => ?_)
        · refine e_iconst (x := 0) rfl (by decide) rfl ?_
          exact xlfV h
        · refine e_iconst (x := 1) rfl (by decide) (xnm_no rfl) ?_
          refine e_goto (t := 70) rfl rfl rfl ?_
          exact xlfV h
set_option maxRecDepth 4000 in
theorem bX0_solve_116_70_i (v2 : Int32) (v3 : Int32) (s0 : Int32) (m : xmm) {z : xmm} (h : (if s0 = 0 then (fX0_takeClass_116 v3 m).bind fun (w1 : xmm) => bX0_solve_116_37 v2 (v3 + (1 : Int32)) w1 else (fX11_against v3 m).bind fun (w3 : Int32 × xmm) => (fX0_takeClass_116 w3.1 w3.2).bind fun (w5 : xmm) => bX0_solve_116_37 v2 (v3 + (1 : Int32)) w5) = some z) : bX0_solve_116_70 v2 v3 s0 m = some z := by
  refine xstV ?_
  show xT 1 4 70 [(0, .ref 116), (2, .int v2), (3, .int v3)] [.int s0] m (none, z)
  refine e_istore rfl rfl (xnm_no rfl) ?_
  refine e_aload_n rfl rfl rfl (xnm_no rfl) ?_
  refine e_iload rfl rfl (xnm_no rfl) ?_
  refine e_if_eq (t := 85) rfl rfl (xnm_no rfl) (xnm_no rfl) h (fun h => ?_) (fun h => ?_)
  · refine e_iload_n rfl rfl (xnm_no rfl) ?_
    obtain ⟨w1, hw2, h⟩ := xbd_some h
    refine e_cVV (hc := hw2) (rest := []) rfl rfl rfl rfl rfl rfl rfl rfl (xnm_no rfl) ?_
    refine e_iinc (y := 1) rfl rfl rfl (by decide) (xnm_no rfl) ?_
    refine e_goto (t := 37) rfl rfl rfl ?_
    exact xlfV h
  · refine e_iload_n rfl rfl (xnm_no rfl) ?_
    obtain ⟨w3, hw4, h⟩ := xbd_some h
    refine e_cIS (hc := hw4) (rest := [.ref 116]) rfl rfl rfl rfl rfl rfl rfl rfl (xnm_no rfl) ?_
    refine e_goto (t := 86) rfl rfl (xnm_no rfl) ?_
    obtain ⟨w5, hw6, h⟩ := xbd_some h
    refine e_cVV (hc := hw6) (rest := []) rfl rfl rfl rfl rfl rfl rfl rfl (xnm_no rfl) ?_
    refine e_iinc (y := 1) rfl rfl rfl (by decide) (xnm_no rfl) ?_
    refine e_goto (t := 37) rfl rfl rfl ?_
    exact xlfV h
set_option maxRecDepth 4000 in
theorem fX11_study_0_i (m : xmm) {z : xmm} (h : (if (m.1 0 6) = 0 then (fX3_copyFrom 12 10 m).bind fun (w1 : xmm) => (fX3_turnOver 12 w1).bind fun (w3 : xmm) => (fX1_solve_97 11 w3).bind fun (w5 : xmm) => (fX1_solve_103 13 w5).bind fun (w7 : xmm) => (fX1_isOrdered_97 w7).bind fun (w9 : Int32 × xmm) => if w9.1 = 0 then bX11_study_0_103 w9.2 else (fX0_solve_109 11 (w9.2.1 10 1) w9.2).bind fun (w11 : xmm) => (fX5_solve_123_109 (w11.1 10 0) w11).bind fun (w13 : xmm) => bX11_study_0_103 w13 else some m) = some z) : fX11_study_0 m = some z := by
  refine xstV ?_
  show xT 151 5 0 [(0, .ref 0)] [] m (none, z)
  refine e_aload_n rfl rfl rfl (xnm_no rfl) ?_
  refine e_getI rfl rfl rfl rfl (xnm_no rfl) ?_
  refine e_if_eq (t := 8) rfl rfl (xnm_no rfl) (xnm_no rfl) h (fun h => ?_) (fun h => ?_)
  · refine e_aload_n rfl rfl rfl (xnm_no rfl) ?_
    refine e_getR (r := 12) rfl rfl rfl rfl rfl (xnm_no rfl) ?_
    refine e_aload_n rfl rfl rfl (xnm_no rfl) ?_
    refine e_getR (r := 10) rfl rfl rfl rfl rfl (xnm_no rfl) ?_
    obtain ⟨w1, hw2, h⟩ := xbd_some h
    refine e_cVV (hc := hw2) (rest := []) rfl rfl rfl rfl rfl rfl rfl rfl (xnm_no rfl) ?_
    refine e_aload_n rfl rfl rfl (xnm_no rfl) ?_
    refine e_getR (r := 12) rfl rfl rfl rfl rfl (xnm_no rfl) ?_
    obtain ⟨w3, hw4, h⟩ := xbd_some h
    refine e_cVV (hc := hw4) (rest := []) rfl rfl rfl rfl rfl rfl rfl rfl (xnm_no rfl) ?_
    refine e_aload_n rfl rfl rfl (xnm_no rfl) ?_
    refine e_getR (r := 97) rfl rfl rfl rfl rfl (xnm_no rfl) ?_
    refine e_aload_n rfl rfl rfl (xnm_no rfl) ?_
    refine e_getR (r := 10) rfl rfl rfl rfl rfl (xnm_no rfl) ?_
    refine e_getR (r := 11) rfl rfl rfl rfl rfl (xnm_no rfl) ?_
    obtain ⟨w5, hw6, h⟩ := xbd_some h
    refine e_cVV (hc := hw6) (rest := []) rfl rfl rfl rfl rfl rfl rfl rfl (xnm_no rfl) ?_
    refine e_aload_n rfl rfl rfl (xnm_no rfl) ?_
    refine e_getR (r := 103) rfl rfl rfl rfl rfl (xnm_no rfl) ?_
    refine e_aload_n rfl rfl rfl (xnm_no rfl) ?_
    refine e_getR (r := 12) rfl rfl rfl rfl rfl (xnm_no rfl) ?_
    refine e_getR (r := 13) rfl rfl rfl rfl rfl (xnm_no rfl) ?_
    obtain ⟨w7, hw8, h⟩ := xbd_some h
    refine e_cVV (hc := hw8) (rest := []) rfl rfl rfl rfl rfl rfl rfl rfl (xnm_no rfl) ?_
    refine e_aload_n rfl rfl rfl (xnm_no rfl) ?_
    refine e_getR (r := 97) rfl rfl rfl rfl rfl (xnm_no rfl) ?_
    obtain ⟨w9, hw10, h⟩ := xbd_some h
    refine e_cIV (hc := hw10) (rest := []) rfl rfl rfl rfl rfl rfl rfl rfl (xnm_no rfl) ?_
    refine e_if_eq (t := 103) rfl rfl rfl (xnm_no rfl) h (fun h => ?_) (fun h => ?_)
    · exact xlfV h
    · refine e_aload_n rfl rfl rfl (xnm_no rfl) ?_
      refine e_getR (r := 109) rfl rfl rfl rfl rfl (xnm_no rfl) ?_
      refine e_aload_n rfl rfl rfl (xnm_no rfl) ?_
      refine e_getR (r := 10) rfl rfl rfl rfl rfl (xnm_no rfl) ?_
      refine e_getR (r := 11) rfl rfl rfl rfl rfl (xnm_no rfl) ?_
      refine e_aload_n rfl rfl rfl (xnm_no rfl) ?_
      refine e_getR (r := 10) rfl rfl rfl rfl rfl (xnm_no rfl) ?_
      refine e_getI rfl rfl rfl rfl (xnm_no rfl) ?_
      obtain ⟨w11, hw12, h⟩ := xbd_some h
      refine e_cVV (hc := hw12) (rest := []) rfl rfl rfl rfl rfl rfl rfl rfl (xnm_no rfl) ?_
      refine e_aload_n rfl rfl rfl (xnm_no rfl) ?_
      refine e_getR (r := 123) rfl rfl rfl rfl rfl (xnm_no rfl) ?_
      refine e_aload_n rfl rfl rfl (xnm_no rfl) ?_
      refine e_getR (r := 10) rfl rfl rfl rfl rfl (xnm_no rfl) ?_
      refine e_getI rfl rfl rfl rfl (xnm_no rfl) ?_
      refine e_aload_n rfl rfl rfl (xnm_no rfl) ?_
      refine e_getR (r := 109) rfl rfl rfl rfl rfl (xnm_no rfl) ?_
      obtain ⟨w13, hw14, h⟩ := xbd_some h
      refine e_cVV (hc := hw14) (rest := []) rfl rfl rfl rfl rfl rfl rfl rfl rfl ?_
      exact xlfV h
  · cases h
    exact e_retV rfl rfl
set_option maxRecDepth 4000 in
theorem bX11_study_0_103_i (m : xmm) {z : xmm} (h : ((fX1_isOrdered_103 m).bind fun (w1 : Int32 × xmm) => if w1.1 = 0 then xlt (xwi w1.2 0 6 (1 : Int32)) fun (m3 : xmm) => some m3 else (fX0_solve_116 13 (0 : Int32) w1.2).bind fun (w4 : xmm) => xlt (xwi w4 0 6 (1 : Int32)) fun (m6 : xmm) => some m6) = some z) : bX11_study_0_103 m = some z := by
  refine xstV ?_
  show xT 151 5 103 [(0, .ref 0)] [] m (none, z)
  refine e_aload_n rfl rfl rfl (xnm_no rfl) ?_
  refine e_getR (r := 103) rfl rfl rfl rfl rfl (xnm_no rfl) ?_
  obtain ⟨w1, hw2, h⟩ := xbd_some h
  refine e_cIV (hc := hw2) (rest := []) rfl rfl rfl rfl rfl rfl rfl rfl (xnm_no rfl) ?_
  refine e_if_eq (t := 128) rfl rfl (xnm_no rfl) (xnm_no rfl) h (fun h => ?_) (fun h => ?_)
  · refine e_aload_n rfl rfl rfl (xnm_no rfl) ?_
    refine e_iconst (x := 1) rfl (by decide) (xnm_no rfl) ?_
    refine e_putI rfl rfl (by decide) rfl (xnm_no rfl) ?_
    replace h := xlt_b h
    cases h
    exact e_retV rfl rfl
  · refine e_aload_n rfl rfl rfl (xnm_no rfl) ?_
    refine e_getR (r := 116) rfl rfl rfl rfl rfl (xnm_no rfl) ?_
    refine e_aload_n rfl rfl rfl (xnm_no rfl) ?_
    refine e_getR (r := 12) rfl rfl rfl rfl rfl (xnm_no rfl) ?_
    refine e_getR (r := 13) rfl rfl rfl rfl rfl (xnm_no rfl) ?_
    refine e_iconst (x := 0) rfl (by decide) (xnm_no rfl) ?_
    obtain ⟨w4, hw5, h⟩ := xbd_some h
    refine e_cVV (hc := hw5) (rest := []) rfl rfl rfl rfl rfl rfl rfl rfl (xnm_no rfl) ?_
    refine e_aload_n rfl rfl rfl (xnm_no rfl) ?_
    refine e_iconst (x := 1) rfl (by decide) (xnm_no rfl) ?_
    refine e_putI rfl rfl (by decide) rfl (xnm_no rfl) ?_
    replace h := xlt_b h
    cases h
    exact e_retV rfl rfl
set_option maxRecDepth 4000 in
theorem fJ6_bitCount_i (v0 : Int32) (m : xmm) {z : Int32 × xmm} (h : (xlt (v0 - ((((v0).toUInt32 >>> (((1 : Int32)).toUInt32 &&& Int32.toUInt32 31)).toInt32) &&& (1431655765 : Int32))) fun (x1 : Int32) => xlt ((x1 &&& (858993459 : Int32)) + ((((x1).toUInt32 >>> (((2 : Int32)).toUInt32 &&& Int32.toUInt32 31)).toInt32) &&& (858993459 : Int32))) fun (x2 : Int32) => xlt ((x2 + (((x2).toUInt32 >>> (((4 : Int32)).toUInt32 &&& Int32.toUInt32 31)).toInt32)) &&& (252645135 : Int32)) fun (x3 : Int32) => xlt (x3 + (((x3).toUInt32 >>> (((8 : Int32)).toUInt32 &&& Int32.toUInt32 31)).toInt32)) fun (x4 : Int32) => xlt (x4 + (((x4).toUInt32 >>> (((16 : Int32)).toUInt32 &&& Int32.toUInt32 31)).toInt32)) fun (x5 : Int32) => some ((x5 &&& (63 : Int32)), m)) = some z) : fJ6_bitCount v0 m = some z := by
  refine xstI ?_
  show xT 153 0 0 [(0, .int v0)] [] m (some (.int z.1), z.2)
  refine e_iload_n rfl rfl (xnm_no rfl) ?_
  refine e_iload_n rfl rfl (xnm_no rfl) ?_
  refine e_iconst (x := 1) rfl (by decide) (xnm_no rfl) ?_
  refine e_iushr rfl (xnm_no rfl) ?_
  refine e_ldcw (v := 1431655765) rfl rfl (xnm_no rfl) ?_
  refine e_iand rfl (xnm_no rfl) ?_
  refine e_isub rfl (xnm_no rfl) ?_
  replace h := xlt_b h
  refine e_istore_n rfl rfl (xnm_no rfl) ?_
  refine e_iload_n rfl rfl (xnm_no rfl) ?_
  refine e_ldcw (v := 858993459) rfl rfl (xnm_no rfl) ?_
  refine e_iand rfl (xnm_no rfl) ?_
  refine e_iload_n rfl rfl (xnm_no rfl) ?_
  refine e_iconst (x := 2) rfl (by decide) (xnm_no rfl) ?_
  refine e_iushr rfl (xnm_no rfl) ?_
  refine e_ldcw (v := 858993459) rfl rfl (xnm_no rfl) ?_
  refine e_iand rfl (xnm_no rfl) ?_
  refine e_iadd rfl (xnm_no rfl) ?_
  replace h := xlt_b h
  refine e_istore_n rfl rfl (xnm_no rfl) ?_
  refine e_iload_n rfl rfl (xnm_no rfl) ?_
  refine e_iload_n rfl rfl (xnm_no rfl) ?_
  refine e_iconst (x := 4) rfl (by decide) (xnm_no rfl) ?_
  refine e_iushr rfl (xnm_no rfl) ?_
  refine e_iadd rfl (xnm_no rfl) ?_
  refine e_ldcw (v := 252645135) rfl rfl (xnm_no rfl) ?_
  refine e_iand rfl (xnm_no rfl) ?_
  replace h := xlt_b h
  refine e_istore_n rfl rfl (xnm_no rfl) ?_
  refine e_iload_n rfl rfl (xnm_no rfl) ?_
  refine e_iload_n rfl rfl (xnm_no rfl) ?_
  refine e_bipush (x := 8) rfl (by decide) (xnm_no rfl) ?_
  refine e_iushr rfl (xnm_no rfl) ?_
  refine e_iadd rfl (xnm_no rfl) ?_
  replace h := xlt_b h
  refine e_istore_n rfl rfl (xnm_no rfl) ?_
  refine e_iload_n rfl rfl (xnm_no rfl) ?_
  refine e_iload_n rfl rfl (xnm_no rfl) ?_
  refine e_bipush (x := 16) rfl (by decide) (xnm_no rfl) ?_
  refine e_iushr rfl (xnm_no rfl) ?_
  refine e_iadd rfl (xnm_no rfl) ?_
  replace h := xlt_b h
  refine e_istore_n rfl rfl (xnm_no rfl) ?_
  refine e_iload_n rfl rfl (xnm_no rfl) ?_
  refine e_bipush (x := 63) rfl (by decide) (xnm_no rfl) ?_
  refine e_iand rfl (xnm_no rfl) ?_
  cases h
  exact e_retI rfl rfl
set_option maxRecDepth 4000 in
theorem fX3_countLines_i (v0 : Nat) (m : xmm) {z : Int32 × xmm} (h : (bX3_countLines_4 v0 (0 : Int32) (0 : Int32) m) = some z) : fX3_countLines v0 m = some z := by
  refine xstI ?_
  show xT 29 1 0 [(0, .ref v0)] [] m (some (.int z.1), z.2)
  refine e_iconst (x := 0) rfl (by decide) (xnm_no rfl) ?_
  refine e_istore_n rfl rfl (xnm_no rfl) ?_
  refine e_iconst (x := 0) rfl (by decide) (xnm_no rfl) ?_
  refine e_istore_n rfl rfl rfl ?_
  exact xlfI h
set_option maxRecDepth 4000 in
theorem bX3_countLines_4_i (v0 : Nat) (v1 : Int32) (v2 : Int32) (m : xmm) {z : Int32 × xmm} (h : (if (8 : Int32) ≤ v2 then some ((v1 / (2 : Int32)), m) else xgd (!(Nat.beq v0 1999)) (xgd (xob v0 3) (xgr (xR0 v0 2) fun r3 => xgd (xia 1 r3 v2) ((fJ6_bitCount (m.1 r3 (v2).toNatClampNeg) m).bind fun (w6 : Int32 × xmm) => bX3_countLines_4 v0 (v1 + w6.1) (v2 + (1 : Int32)) w6.2)))) = some z) : bX3_countLines_4 v0 v1 v2 m = some z := by
  refine xstI ?_
  show xT 29 1 4 [(0, .ref v0), (1, .int v1), (2, .int v2)] [] m (some (.int z.1), z.2)
  refine e_iload_n rfl rfl (xnm_no rfl) ?_
  refine e_bipush (x := 8) rfl (by decide) (xnm_no rfl) ?_
  refine e_icmp_ge (t := 28) rfl rfl (xnm_no rfl) (xnm_no rfl) h (fun h => ?_) (fun h => ?_)
  · refine e_iload_n rfl rfl (xnm_no rfl) ?_
    refine e_iconst (x := 2) rfl (by decide) (xnm_no rfl) ?_
    refine e_idiv rfl (by decide) (xnm_no rfl) ?_
    cases h
    exact e_retI rfl rfl
  · refine e_iload_n rfl rfl (xnm_no rfl) ?_
    obtain ⟨g1, h⟩ := xgd_some h
    refine e_aload_n rfl rfl (xnb g1) (xnm_no rfl) ?_
    obtain ⟨g2, h⟩ := xgd_some h
    obtain ⟨r3, hr4, h⟩ := xgr_some h
    refine e_getR rfl rfl rfl g2 hr4 (xnm_no rfl) ?_
    refine e_iload_n rfl rfl (xnm_no rfl) ?_
    obtain ⟨g5, h⟩ := xgd_some h
    refine e_iald rfl g5 (xnm_no rfl) ?_
    obtain ⟨w6, hw7, h⟩ := xbd_some h
    refine e_cIS (hc := hw7) (rest := [.int _]) rfl rfl rfl rfl rfl rfl rfl rfl (xnm_no rfl) ?_
    refine e_iadd rfl (xnm_no rfl) ?_
    refine e_istore_n rfl rfl (xnm_no rfl) ?_
    refine e_iinc (y := 1) rfl rfl rfl (by decide) (xnm_no rfl) ?_
    refine e_goto (t := 4) rfl rfl rfl ?_
    exact xlfI h
set_option maxRecDepth 4000 in
theorem fX9_isAlike_i (v0 : Nat) (v1 : Int32) (v2 : Int32) (m : xmm) {z : Int32 × xmm} (h : (if v1 = 0 then some ((0 : Int32), m) else bX9_isAlike_8 v0 v1 v2 (0 : Int32) m) = some z) : fX9_isAlike v0 v1 v2 m = some z := by
  refine xstI ?_
  show xT 99 1 0 [(0, .ref v0), (1, .int v1), (2, .int v2)] [] m (some (.int z.1), z.2)
  refine e_iload_n rfl rfl (xnm_no rfl) ?_
  refine e_if_ne (t := 6) rfl rfl (xnm_no rfl) (xnm_no rfl) h (fun h => ?_) (fun h => ?_)
  · refine e_iconst (x := 0) rfl (by decide) (xnm_no rfl) ?_
    refine e_istore_n rfl rfl rfl ?_
    exact xlfI h
  · refine e_iconst (x := 0) rfl (by decide) (xnm_no rfl) ?_
    cases h
    exact e_retI rfl (by decide)
set_option maxRecDepth 4000 in
theorem bX9_isAlike_8_i (v0 : Nat) (v1 : Int32) (v2 : Int32) (v3 : Int32) (m : xmm) {z : Int32 × xmm} (h : (if (8 : Int32) ≤ v3 then some ((1 : Int32), m) else xgd (!(Nat.beq v0 1999)) (xgd (xia 1 v0 v3) ((fX11_contains (v2 &&& (v1 ^^^ (-1 : Int32))) v3 m).bind fun (w3 : Int32 × xmm) => if w3.1 = 0 then bX9_isAlike_8 v0 v1 v2 (v3 + (1 : Int32)) w3.2 else if ((m.1 v0 (v3).toNatClampNeg) &&& v1) = 0 then bX9_isAlike_8 v0 v1 v2 (v3 + (1 : Int32)) w3.2 else if ((m.1 v0 (v3).toNatClampNeg) &&& v1) = v1 then bX9_isAlike_8 v0 v1 v2 (v3 + (1 : Int32)) w3.2 else some ((0 : Int32), w3.2)))) = some z) : bX9_isAlike_8 v0 v1 v2 v3 m = some z := by
  refine xstI ?_
  show xT 99 1 8 [(0, .ref v0), (1, .int v1), (2, .int v2), (3, .int v3)] [] m (some (.int z.1), z.2)
  refine e_iload_n rfl rfl (xnm_no rfl) ?_
  refine e_bipush (x := 8) rfl (by decide) (xnm_no rfl) ?_
  refine e_icmp_ge (t := 52) rfl rfl (xnm_no rfl) (xnm_no rfl) h (fun h => ?_) (fun h => ?_)
  · refine e_iconst (x := 1) rfl (by decide) (xnm_no rfl) ?_
    cases h
    exact e_retI rfl (by decide)
  · obtain ⟨g1, h⟩ := xgd_some h
    refine e_aload_n rfl rfl (xnb g1) (xnm_no rfl) ?_
    refine e_iload_n rfl rfl (xnm_no rfl) ?_
    obtain ⟨g2, h⟩ := xgd_some h
    refine e_iald rfl g2 (xnm_no rfl) ?_
    refine e_iload_n rfl rfl (xnm_no rfl) ?_
    refine e_iand rfl (xnm_no rfl) ?_
    refine e_istore rfl rfl (xnm_no rfl) ?_
    refine e_iload_n rfl rfl (xnm_no rfl) ?_
    refine e_iload_n rfl rfl (xnm_no rfl) ?_
    refine e_iconst (x := -1) rfl (by decide) (xnm_no rfl) ?_
    refine e_ixor rfl (xnm_no rfl) ?_
    refine e_iand rfl (xnm_no rfl) ?_
    refine e_iload_n rfl rfl (xnm_no rfl) ?_
    obtain ⟨w3, hw4, h⟩ := xbd_some h
    refine e_cIS (hc := hw4) (rest := []) rfl rfl rfl rfl rfl rfl rfl rfl (xnm_no rfl) ?_
    refine e_if_eq (t := 46) rfl rfl (xnm_no rfl) (xnm_no rfl) h (fun h => ?_) (fun h => ?_)
    · refine e_iinc (y := 1) rfl rfl rfl (by decide) (xnm_no rfl) ?_
      refine e_goto (t := 8) rfl rfl rfl ?_
      exact xlfI h
    · refine e_iload rfl rfl (xnm_no rfl) ?_
      refine e_if_eq (t := 46) rfl rfl (xnm_no rfl) (xnm_no rfl) h (fun h => ?_) (fun h => ?_)
      · refine e_iinc (y := 1) rfl rfl rfl (by decide) (xnm_no rfl) ?_
        refine e_goto (t := 8) rfl rfl rfl ?_
        exact xlfI h
      · refine e_iload rfl rfl (xnm_no rfl) ?_
        refine e_iload_n rfl rfl (xnm_no rfl) ?_
        refine e_icmp_eq (t := 46) rfl rfl (xnm_no rfl) (xnm_no rfl) h (fun h => ?_) (fun h => ?_)
        · refine e_iinc (y := 1) rfl rfl rfl (by decide) (xnm_no rfl) ?_
          refine e_goto (t := 8) rfl rfl rfl ?_
          exact xlfI h
        · refine e_iconst (x := 0) rfl (by decide) (xnm_no rfl) ?_
          cases h
          exact e_retI rfl (by decide)
set_option maxRecDepth 4000 in
theorem fX11_bit_i (v0 : Int32) (m : xmm) {z : Int32 × xmm} (h : (if v0 = 0 then some ((0 : Int32), m) else some ((1 : Int32), m)) = some z) : fX11_bit v0 m = some z := by
  refine xstI ?_
  show xT 143 0 0 [(0, .int v0)] [] m (some (.int z.1), z.2)
  refine e_iload_n rfl rfl (xnm_no rfl) ?_
  refine e_if_eq (t := 8) rfl rfl (xnm_no rfl) (xnm_no rfl) h (fun h => ?_) (fun h => ?_)
  · refine e_iconst (x := 0) rfl (by decide) (xnm_no rfl) ?_
    cases h
    exact e_retI rfl rfl
  · refine e_iconst (x := 1) rfl (by decide) (xnm_no rfl) ?_
    refine e_goto (t := 9) rfl rfl (xnm_no rfl) ?_
    cases h
    exact e_retI rfl rfl
set_option maxRecDepth 4000 in
theorem fX9_countAlike_i (v0 : Nat) (v1 : Int32) (m : xmm) {z : Int32 × xmm} (h : (bX9_countAlike_4 v0 v1 (0 : Int32) (1 : Int32) m) = some z) : fX9_countAlike v0 v1 m = some z := by
  refine xstI ?_
  show xT 105 2 0 [(0, .ref v0), (1, .int v1)] [] m (some (.int z.1), z.2)
  refine e_iconst (x := 0) rfl (by decide) (xnm_no rfl) ?_
  refine e_istore_n rfl rfl (xnm_no rfl) ?_
  refine e_iconst (x := 1) rfl (by decide) (xnm_no rfl) ?_
  refine e_istore_n rfl rfl rfl ?_
  exact xlfI h
set_option maxRecDepth 4000 in
theorem bX9_countAlike_4_i (v0 : Nat) (v1 : Int32) (v2 : Int32) (v3 : Int32) (m : xmm) {z : Int32 × xmm} (h : (if v1 < v3 then some (v2, m) else if (256 : Int32) ≤ v3 then some (v2, m) else xgd (!(Nat.beq v0 1999)) ((fX9_isAlike v0 v3 v1 m).bind fun (w2 : Int32 × xmm) => (fX11_bit w2.1 w2.2).bind fun (w4 : Int32 × xmm) => bX9_countAlike_4 v0 v1 (v2 + w4.1) (v3 + (1 : Int32)) w4.2)) = some z) : bX9_countAlike_4 v0 v1 v2 v3 m = some z := by
  refine xstI ?_
  show xT 105 2 4 [(0, .ref v0), (1, .int v1), (2, .int v2), (3, .int v3)] [] m (some (.int z.1), z.2)
  refine e_iload_n rfl rfl (xnm_no rfl) ?_
  refine e_iload_n rfl rfl (xnm_no rfl) ?_
  refine e_icmp_gt (t := 34) rfl rfl (xnm_no rfl) (xnm_no rfl) h (fun h => ?_) (fun h => ?_)
  · refine e_iload_n rfl rfl (xnm_no rfl) ?_
    cases h
    exact e_retI rfl rfl
  · refine e_iload_n rfl rfl (xnm_no rfl) ?_
    refine e_sipush (x := 256) rfl (by decide) (xnm_no rfl) ?_
    refine e_icmp_ge (t := 34) rfl rfl (xnm_no rfl) (xnm_no rfl) h (fun h => ?_) (fun h => ?_)
    · refine e_iload_n rfl rfl (xnm_no rfl) ?_
      cases h
      exact e_retI rfl rfl
    · refine e_iload_n rfl rfl (xnm_no rfl) ?_
      obtain ⟨g1, h⟩ := xgd_some h
      refine e_aload_n rfl rfl (xnb g1) (xnm_no rfl) ?_
      refine e_iload_n rfl rfl (xnm_no rfl) ?_
      refine e_iload_n rfl rfl (xnm_no rfl) ?_
      obtain ⟨w2, hw3, h⟩ := xbd_some h
      refine e_cIS (hc := hw3) (rest := [.int _]) rfl rfl rfl rfl rfl rfl rfl rfl (xnm_no rfl) ?_
      obtain ⟨w4, hw5, h⟩ := xbd_some h
      refine e_cIS (hc := hw5) (rest := [.int _]) rfl rfl rfl rfl rfl rfl rfl rfl (xnm_no rfl) ?_
      refine e_iadd rfl (xnm_no rfl) ?_
      refine e_istore_n rfl rfl (xnm_no rfl) ?_
      refine e_iinc (y := 1) rfl rfl rfl (by decide) (xnm_no rfl) ?_
      refine e_goto (t := 4) rfl rfl rfl ?_
      exact xlfI h
set_option maxRecDepth 4000 in
theorem fX9_touched_i (v0 : Nat) (v1 : Int32) (m : xmm) {z : Int32 × xmm} (h : (bX9_touched_4 v0 v1 (0 : Int32) (0 : Int32) m) = some z) : fX9_touched v0 v1 m = some z := by
  refine xstI ?_
  show xT 97 1 0 [(0, .ref v0), (1, .int v1)] [] m (some (.int z.1), z.2)
  refine e_iconst (x := 0) rfl (by decide) (xnm_no rfl) ?_
  refine e_istore_n rfl rfl (xnm_no rfl) ?_
  refine e_iconst (x := 0) rfl (by decide) (xnm_no rfl) ?_
  refine e_istore_n rfl rfl rfl ?_
  exact xlfI h
set_option maxRecDepth 4000 in
theorem bX9_touched_4_i (v0 : Nat) (v1 : Int32) (v2 : Int32) (v3 : Int32) (m : xmm) {z : Int32 × xmm} (h : (if (8 : Int32) ≤ v3 then some (v2, m) else (fX11_contains v1 v3 m).bind fun (w1 : Int32 × xmm) => if w1.1 = 0 then bX9_touched_4 v0 v1 v2 (v3 + (1 : Int32)) w1.2 else xgd (!(Nat.beq v0 1999)) (xgd (xia 1 v0 v3) (bX9_touched_4 v0 v1 (v2 ||| (w1.2.1 v0 (v3).toNatClampNeg)) (v3 + (1 : Int32)) w1.2))) = some z) : bX9_touched_4 v0 v1 v2 v3 m = some z := by
  refine xstI ?_
  show xT 97 1 4 [(0, .ref v0), (1, .int v1), (2, .int v2), (3, .int v3)] [] m (some (.int z.1), z.2)
  refine e_iload_n rfl rfl (xnm_no rfl) ?_
  refine e_bipush (x := 8) rfl (by decide) (xnm_no rfl) ?_
  refine e_icmp_ge (t := 30) rfl rfl (xnm_no rfl) (xnm_no rfl) h (fun h => ?_) (fun h => ?_)
  · refine e_iload_n rfl rfl (xnm_no rfl) ?_
    cases h
    exact e_retI rfl rfl
  · refine e_iload_n rfl rfl (xnm_no rfl) ?_
    refine e_iload_n rfl rfl (xnm_no rfl) ?_
    obtain ⟨w1, hw2, h⟩ := xbd_some h
    refine e_cIS (hc := hw2) (rest := []) rfl rfl rfl rfl rfl rfl rfl rfl (xnm_no rfl) ?_
    refine e_if_eq (t := 24) rfl rfl (xnm_no rfl) (xnm_no rfl) h (fun h => ?_) (fun h => ?_)
    · refine e_iinc (y := 1) rfl rfl rfl (by decide) (xnm_no rfl) ?_
      refine e_goto (t := 4) rfl rfl rfl ?_
      exact xlfI h
    · refine e_iload_n rfl rfl (xnm_no rfl) ?_
      obtain ⟨g3, h⟩ := xgd_some h
      refine e_aload_n rfl rfl (xnb g3) (xnm_no rfl) ?_
      refine e_iload_n rfl rfl (xnm_no rfl) ?_
      obtain ⟨g4, h⟩ := xgd_some h
      refine e_iald rfl g4 (xnm_no rfl) ?_
      refine e_ior rfl (xnm_no rfl) ?_
      refine e_istore_n rfl rfl (xnm_no rfl) ?_
      refine e_iinc (y := 1) rfl rfl rfl (by decide) (xnm_no rfl) ?_
      refine e_goto (t := 4) rfl rfl rfl ?_
      exact xlfI h
set_option maxRecDepth 4000 in
theorem fX9_partOf_i (v0 : Nat) (v1 : Int32) (v2 : Int32) (m : xmm) {z : Int32 × xmm} (h : (bX9_partOf_7 v0 v1 ((1 : Int32) <<< (v2 &&& 31)) (0 : Int32) m) = some z) : fX9_partOf v0 v1 v2 m = some z := by
  refine xstI ?_
  show xT 102 2 0 [(0, .ref v0), (1, .int v1), (2, .int v2)] [] m (some (.int z.1), z.2)
  refine e_iconst (x := 1) rfl (by decide) (xnm_no rfl) ?_
  refine e_iload_n rfl rfl (xnm_no rfl) ?_
  refine e_ishl rfl (xnm_no rfl) ?_
  refine e_istore_n rfl rfl (xnm_no rfl) ?_
  refine e_iconst (x := 0) rfl (by decide) (xnm_no rfl) ?_
  refine e_istore rfl rfl rfl ?_
  exact xlfI h
set_option maxRecDepth 4000 in
theorem bX9_partOf_7_i (v0 : Nat) (v1 : Int32) (v3 : Int32) (v4 : Int32) (m : xmm) {z : Int32 × xmm} (h : (if (8 : Int32) ≤ v4 then some (v3, m) else xgd (!(Nat.beq v0 1999)) ((fX9_touched v0 v3 m).bind fun (w2 : Int32 × xmm) => bX9_partOf_7 v0 v1 (v3 ||| (w2.1 &&& v1)) (v4 + (1 : Int32)) w2.2)) = some z) : bX9_partOf_7 v0 v1 v3 v4 m = some z := by
  refine xstI ?_
  show xT 102 2 7 [(0, .ref v0), (1, .int v1), (3, .int v3), (4, .int v4)] [] m (some (.int z.1), z.2)
  refine e_iload rfl rfl (xnm_no rfl) ?_
  refine e_bipush (x := 8) rfl (by decide) (xnm_no rfl) ?_
  refine e_icmp_ge (t := 30) rfl rfl (xnm_no rfl) (xnm_no rfl) h (fun h => ?_) (fun h => ?_)
  · refine e_iload_n rfl rfl (xnm_no rfl) ?_
    cases h
    exact e_retI rfl rfl
  · refine e_iload_n rfl rfl (xnm_no rfl) ?_
    obtain ⟨g1, h⟩ := xgd_some h
    refine e_aload_n rfl rfl (xnb g1) (xnm_no rfl) ?_
    refine e_iload_n rfl rfl (xnm_no rfl) ?_
    obtain ⟨w2, hw3, h⟩ := xbd_some h
    refine e_cIS (hc := hw3) (rest := [.int _]) rfl rfl rfl rfl rfl rfl rfl rfl (xnm_no rfl) ?_
    refine e_iload_n rfl rfl (xnm_no rfl) ?_
    refine e_iand rfl (xnm_no rfl) ?_
    refine e_ior rfl (xnm_no rfl) ?_
    refine e_istore_n rfl rfl (xnm_no rfl) ?_
    refine e_iinc (y := 1) rfl rfl rfl (by decide) (xnm_no rfl) ?_
    refine e_goto (t := 7) rfl rfl rfl ?_
    exact xlfI h
set_option maxRecDepth 4000 in
theorem fX9_parts_i (v0 : Nat) (v1 : Int32) (m : xmm) {z : Int32 × xmm} (h : (bX9_parts_7 v0 v1 (0 : Int32) v1 (0 : Int32) m) = some z) : fX9_parts v0 v1 m = some z := by
  refine xstI ?_
  show xT 101 3 0 [(0, .ref v0), (1, .int v1)] [] m (some (.int z.1), z.2)
  refine e_iconst (x := 0) rfl (by decide) (xnm_no rfl) ?_
  refine e_istore_n rfl rfl (xnm_no rfl) ?_
  refine e_iload_n rfl rfl (xnm_no rfl) ?_
  refine e_istore_n rfl rfl (xnm_no rfl) ?_
  refine e_iconst (x := 0) rfl (by decide) (xnm_no rfl) ?_
  refine e_istore rfl rfl rfl ?_
  exact xlfI h
set_option maxRecDepth 4000 in
theorem bX9_parts_7_i (v0 : Nat) (v1 : Int32) (v2 : Int32) (v3 : Int32) (v4 : Int32) (m : xmm) {z : Int32 × xmm} (h : (if (8 : Int32) ≤ v4 then some (v2, m) else (fX11_contains v3 v4 m).bind fun (w1 : Int32 × xmm) => if w1.1 = 0 then bX9_parts_7 v0 v1 v2 v3 (v4 + (1 : Int32)) w1.2 else xgd (!(Nat.beq v0 1999)) ((fX9_partOf v0 v1 v4 w1.2).bind fun (w4 : Int32 × xmm) => bX9_parts_7 v0 v1 (v2 + (1 : Int32)) (v3 &&& (w4.1 ^^^ (-1 : Int32))) (v4 + (1 : Int32)) w4.2)) = some z) : bX9_parts_7 v0 v1 v2 v3 v4 m = some z := by
  refine xstI ?_
  show xT 101 3 7 [(0, .ref v0), (1, .int v1), (2, .int v2), (3, .int v3), (4, .int v4)] [] m (some (.int z.1), z.2)
  refine e_iload rfl rfl (xnm_no rfl) ?_
  refine e_bipush (x := 8) rfl (by decide) (xnm_no rfl) ?_
  refine e_icmp_ge (t := 44) rfl rfl (xnm_no rfl) (xnm_no rfl) h (fun h => ?_) (fun h => ?_)
  · refine e_iload_n rfl rfl (xnm_no rfl) ?_
    cases h
    exact e_retI rfl rfl
  · refine e_iload_n rfl rfl (xnm_no rfl) ?_
    refine e_iload rfl rfl (xnm_no rfl) ?_
    obtain ⟨w1, hw2, h⟩ := xbd_some h
    refine e_cIS (hc := hw2) (rest := []) rfl rfl rfl rfl rfl rfl rfl rfl (xnm_no rfl) ?_
    refine e_if_eq (t := 38) rfl rfl (xnm_no rfl) (xnm_no rfl) h (fun h => ?_) (fun h => ?_)
    · refine e_iinc (y := 1) rfl rfl rfl (by decide) (xnm_no rfl) ?_
      refine e_goto (t := 7) rfl rfl rfl ?_
      exact xlfI h
    · refine e_iload_n rfl rfl (xnm_no rfl) ?_
      obtain ⟨g3, h⟩ := xgd_some h
      refine e_aload_n rfl rfl (xnb g3) (xnm_no rfl) ?_
      refine e_iload_n rfl rfl (xnm_no rfl) ?_
      refine e_iload rfl rfl (xnm_no rfl) ?_
      obtain ⟨w4, hw5, h⟩ := xbd_some h
      refine e_cIS (hc := hw5) (rest := [.int _]) rfl rfl rfl rfl rfl rfl rfl rfl (xnm_no rfl) ?_
      refine e_iconst (x := -1) rfl (by decide) (xnm_no rfl) ?_
      refine e_ixor rfl (xnm_no rfl) ?_
      refine e_iand rfl (xnm_no rfl) ?_
      refine e_istore_n rfl rfl (xnm_no rfl) ?_
      refine e_iinc (y := 1) rfl rfl rfl (by decide) (xnm_no rfl) ?_
      refine e_iinc (y := 1) rfl rfl rfl (by decide) (xnm_no rfl) ?_
      refine e_goto (t := 7) rfl rfl rfl ?_
      exact xlfI h
set_option maxRecDepth 4000 in
theorem fX9_isRound_i (v0 : Nat) (v1 : Int32) (m : xmm) {z : Int32 × xmm} (h : ((fJ6_bitCount v1 m).bind fun (w1 : Int32 × xmm) => if (4 : Int32) ≤ w1.1 then bX9_isRound_12 v0 v1 (0 : Int32) w1.2 else some ((0 : Int32), w1.2)) = some z) : fX9_isRound v0 v1 m = some z := by
  refine xstI ?_
  show xT 100 4 0 [(0, .ref v0), (1, .int v1)] [] m (some (.int z.1), z.2)
  refine e_iload_n rfl rfl (xnm_no rfl) ?_
  obtain ⟨w1, hw2, h⟩ := xbd_some h
  refine e_cIS (hc := hw2) (rest := []) rfl rfl rfl rfl rfl rfl rfl rfl (xnm_no rfl) ?_
  refine e_iconst (x := 4) rfl (by decide) (xnm_no rfl) ?_
  refine e_icmp_ge (t := 10) rfl rfl (xnm_no rfl) (xnm_no rfl) h (fun h => ?_) (fun h => ?_)
  · refine e_iconst (x := 0) rfl (by decide) (xnm_no rfl) ?_
    refine e_istore_n rfl rfl rfl ?_
    exact xlfI h
  · refine e_iconst (x := 0) rfl (by decide) (xnm_no rfl) ?_
    cases h
    exact e_retI rfl (by decide)
set_option maxRecDepth 4000 in
theorem bX9_isRound_12_i (v0 : Nat) (v1 : Int32) (v2 : Int32) (m : xmm) {z : Int32 × xmm} (h : (if (8 : Int32) ≤ v2 then xgd (!(Nat.beq v0 1999)) ((fX9_parts v0 v1 m).bind fun (w2 : Int32 × xmm) => if w2.1 = (1 : Int32) then some ((1 : Int32), w2.2) else some ((0 : Int32), w2.2)) else (fX11_contains v1 v2 m).bind fun (w4 : Int32 × xmm) => if w4.1 = 0 then bX9_isRound_12 v0 v1 (v2 + (1 : Int32)) w4.2 else xgd (!(Nat.beq v0 1999)) (xgd (xia 1 v0 v2) ((fJ6_bitCount ((w4.2.1 v0 (v2).toNatClampNeg) &&& v1) w4.2).bind fun (w8 : Int32 × xmm) => if w8.1 = (2 : Int32) then bX9_isRound_12 v0 v1 (v2 + (1 : Int32)) w8.2 else some ((0 : Int32), w8.2)))) = some z) : bX9_isRound_12 v0 v1 v2 m = some z := by
  refine xstI ?_
  show xT 100 4 12 [(0, .ref v0), (1, .int v1), (2, .int v2)] [] m (some (.int z.1), z.2)
  refine e_iload_n rfl rfl (xnm_no rfl) ?_
  refine e_bipush (x := 8) rfl (by decide) (xnm_no rfl) ?_
  refine e_icmp_ge (t := 46) rfl rfl (xnm_no rfl) (xnm_no rfl) h (fun h => ?_) (fun h => ?_)
  · obtain ⟨g1, h⟩ := xgd_some h
    refine e_aload_n rfl rfl (xnb g1) (xnm_no rfl) ?_
    refine e_iload_n rfl rfl (xnm_no rfl) ?_
    obtain ⟨w2, hw3, h⟩ := xbd_some h
    refine e_cIS (hc := hw3) (rest := []) rfl rfl rfl rfl rfl rfl rfl rfl (xnm_no rfl) ?_
    refine e_iconst (x := 1) rfl (by decide) (xnm_no rfl) ?_
    refine e_icmp_ne (t := 59) rfl rfl (xnm_no rfl) (xnm_no rfl) h (fun h => ?_) (fun h => ?_)
    · refine e_iconst (x := 0) rfl (by decide) (xnm_no rfl) ?_
      cases h
      exact e_retI rfl (by decide)
    · refine e_iconst (x := 1) rfl (by decide) (xnm_no rfl) ?_
      refine e_goto (t := 60) rfl rfl (xnm_no rfl) ?_
      cases h
      exact e_retI rfl (by decide)
  · refine e_iload_n rfl rfl (xnm_no rfl) ?_
    refine e_iload_n rfl rfl (xnm_no rfl) ?_
    obtain ⟨w4, hw5, h⟩ := xbd_some h
    refine e_cIS (hc := hw5) (rest := []) rfl rfl rfl rfl rfl rfl rfl rfl (xnm_no rfl) ?_
    refine e_if_eq (t := 40) rfl rfl (xnm_no rfl) (xnm_no rfl) h (fun h => ?_) (fun h => ?_)
    · refine e_iinc (y := 1) rfl rfl rfl (by decide) (xnm_no rfl) ?_
      refine e_goto (t := 12) rfl rfl rfl ?_
      exact xlfI h
    · obtain ⟨g6, h⟩ := xgd_some h
      refine e_aload_n rfl rfl (xnb g6) (xnm_no rfl) ?_
      refine e_iload_n rfl rfl (xnm_no rfl) ?_
      obtain ⟨g7, h⟩ := xgd_some h
      refine e_iald rfl g7 (xnm_no rfl) ?_
      refine e_iload_n rfl rfl (xnm_no rfl) ?_
      refine e_iand rfl (xnm_no rfl) ?_
      obtain ⟨w8, hw9, h⟩ := xbd_some h
      refine e_cIS (hc := hw9) (rest := []) rfl rfl rfl rfl rfl rfl rfl rfl (xnm_no rfl) ?_
      refine e_iconst (x := 2) rfl (by decide) (xnm_no rfl) ?_
      refine e_icmp_eq (t := 40) rfl rfl (xnm_no rfl) (xnm_no rfl) h (fun h => ?_) (fun h => ?_)
      · refine e_iinc (y := 1) rfl rfl rfl (by decide) (xnm_no rfl) ?_
        refine e_goto (t := 12) rfl rfl rfl ?_
        exact xlfI h
      · refine e_iconst (x := 0) rfl (by decide) (xnm_no rfl) ?_
        cases h
        exact e_retI rfl (by decide)
set_option maxRecDepth 4000 in
theorem fX9_countRounds_i (v0 : Nat) (v1 : Int32) (m : xmm) {z : Int32 × xmm} (h : (bX9_countRounds_4 v0 v1 (0 : Int32) (1 : Int32) m) = some z) : fX9_countRounds v0 v1 m = some z := by
  refine xstI ?_
  show xT 106 5 0 [(0, .ref v0), (1, .int v1)] [] m (some (.int z.1), z.2)
  refine e_iconst (x := 0) rfl (by decide) (xnm_no rfl) ?_
  refine e_istore_n rfl rfl (xnm_no rfl) ?_
  refine e_iconst (x := 1) rfl (by decide) (xnm_no rfl) ?_
  refine e_istore_n rfl rfl rfl ?_
  exact xlfI h
set_option maxRecDepth 4000 in
theorem bX9_countRounds_4_i (v0 : Nat) (v1 : Int32) (v2 : Int32) (v3 : Int32) (m : xmm) {z : Int32 × xmm} (h : (if v1 < v3 then some (v2, m) else if (256 : Int32) ≤ v3 then some (v2, m) else xgd (!(Nat.beq v0 1999)) ((fX9_isRound v0 v3 m).bind fun (w2 : Int32 × xmm) => (fX11_bit w2.1 w2.2).bind fun (w4 : Int32 × xmm) => bX9_countRounds_4 v0 v1 (v2 + w4.1) (v3 + (1 : Int32)) w4.2)) = some z) : bX9_countRounds_4 v0 v1 v2 v3 m = some z := by
  refine xstI ?_
  show xT 106 5 4 [(0, .ref v0), (1, .int v1), (2, .int v2), (3, .int v3)] [] m (some (.int z.1), z.2)
  refine e_iload_n rfl rfl (xnm_no rfl) ?_
  refine e_iload_n rfl rfl (xnm_no rfl) ?_
  refine e_icmp_gt (t := 33) rfl rfl (xnm_no rfl) (xnm_no rfl) h (fun h => ?_) (fun h => ?_)
  · refine e_iload_n rfl rfl (xnm_no rfl) ?_
    cases h
    exact e_retI rfl rfl
  · refine e_iload_n rfl rfl (xnm_no rfl) ?_
    refine e_sipush (x := 256) rfl (by decide) (xnm_no rfl) ?_
    refine e_icmp_ge (t := 33) rfl rfl (xnm_no rfl) (xnm_no rfl) h (fun h => ?_) (fun h => ?_)
    · refine e_iload_n rfl rfl (xnm_no rfl) ?_
      cases h
      exact e_retI rfl rfl
    · refine e_iload_n rfl rfl (xnm_no rfl) ?_
      obtain ⟨g1, h⟩ := xgd_some h
      refine e_aload_n rfl rfl (xnb g1) (xnm_no rfl) ?_
      refine e_iload_n rfl rfl (xnm_no rfl) ?_
      obtain ⟨w2, hw3, h⟩ := xbd_some h
      refine e_cIS (hc := hw3) (rest := [.int _]) rfl rfl rfl rfl rfl rfl rfl rfl (xnm_no rfl) ?_
      obtain ⟨w4, hw5, h⟩ := xbd_some h
      refine e_cIS (hc := hw5) (rest := [.int _]) rfl rfl rfl rfl rfl rfl rfl rfl (xnm_no rfl) ?_
      refine e_iadd rfl (xnm_no rfl) ?_
      refine e_istore_n rfl rfl (xnm_no rfl) ?_
      refine e_iinc (y := 1) rfl rfl rfl (by decide) (xnm_no rfl) ?_
      refine e_goto (t := 4) rfl rfl rfl ?_
      exact xlfI h
set_option maxRecDepth 4000 in
theorem fX9_isApart_i (v0 : Nat) (v1 : Int32) (m : xmm) {z : Int32 × xmm} (h : (xgd (!(Nat.beq v0 1999)) ((fX9_touched v0 v1 m).bind fun (w2 : Int32 × xmm) => if (w2.1 &&& v1) = 0 then some ((1 : Int32), w2.2) else some ((0 : Int32), w2.2))) = some z) : fX9_isApart v0 v1 m = some z := by
  refine xstI ?_
  show xT 98 2 0 [(0, .ref v0), (1, .int v1)] [] m (some (.int z.1), z.2)
  obtain ⟨g1, h⟩ := xgd_some h
  refine e_aload_n rfl rfl (xnb g1) (xnm_no rfl) ?_
  refine e_iload_n rfl rfl (xnm_no rfl) ?_
  obtain ⟨w2, hw3, h⟩ := xbd_some h
  refine e_cIS (hc := hw3) (rest := []) rfl rfl rfl rfl rfl rfl rfl rfl (xnm_no rfl) ?_
  refine e_iload_n rfl rfl (xnm_no rfl) ?_
  refine e_iand rfl (xnm_no rfl) ?_
  refine e_if_ne (t := 14) rfl rfl (xnm_no rfl) (xnm_no rfl) h (fun h => ?_) (fun h => ?_)
  · refine e_iconst (x := 0) rfl (by decide) (xnm_no rfl) ?_
    cases h
    exact e_retI rfl (by decide)
  · refine e_iconst (x := 1) rfl (by decide) (xnm_no rfl) ?_
    refine e_goto (t := 15) rfl rfl (xnm_no rfl) ?_
    cases h
    exact e_retI rfl (by decide)
set_option maxRecDepth 4000 in
theorem fX9_countApart_i (v0 : Nat) (v1 : Int32) (m : xmm) {z : Int32 × xmm} (h : (bX9_countApart_4 v0 v1 (0 : Int32) (1 : Int32) m) = some z) : fX9_countApart v0 v1 m = some z := by
  refine xstI ?_
  show xT 104 3 0 [(0, .ref v0), (1, .int v1)] [] m (some (.int z.1), z.2)
  refine e_iconst (x := 0) rfl (by decide) (xnm_no rfl) ?_
  refine e_istore_n rfl rfl (xnm_no rfl) ?_
  refine e_iconst (x := 1) rfl (by decide) (xnm_no rfl) ?_
  refine e_istore_n rfl rfl rfl ?_
  exact xlfI h
set_option maxRecDepth 4000 in
theorem bX9_countApart_4_i (v0 : Nat) (v1 : Int32) (v2 : Int32) (v3 : Int32) (m : xmm) {z : Int32 × xmm} (h : (if v1 < v3 then some (v2, m) else if (256 : Int32) ≤ v3 then some (v2, m) else xgd (!(Nat.beq v0 1999)) ((fX9_isApart v0 v3 m).bind fun (w2 : Int32 × xmm) => (fX11_bit w2.1 w2.2).bind fun (w4 : Int32 × xmm) => bX9_countApart_4 v0 v1 (v2 + w4.1) (v3 + (1 : Int32)) w4.2)) = some z) : bX9_countApart_4 v0 v1 v2 v3 m = some z := by
  refine xstI ?_
  show xT 104 3 4 [(0, .ref v0), (1, .int v1), (2, .int v2), (3, .int v3)] [] m (some (.int z.1), z.2)
  refine e_iload_n rfl rfl (xnm_no rfl) ?_
  refine e_iload_n rfl rfl (xnm_no rfl) ?_
  refine e_icmp_gt (t := 33) rfl rfl (xnm_no rfl) (xnm_no rfl) h (fun h => ?_) (fun h => ?_)
  · refine e_iload_n rfl rfl (xnm_no rfl) ?_
    cases h
    exact e_retI rfl rfl
  · refine e_iload_n rfl rfl (xnm_no rfl) ?_
    refine e_sipush (x := 256) rfl (by decide) (xnm_no rfl) ?_
    refine e_icmp_ge (t := 33) rfl rfl (xnm_no rfl) (xnm_no rfl) h (fun h => ?_) (fun h => ?_)
    · refine e_iload_n rfl rfl (xnm_no rfl) ?_
      cases h
      exact e_retI rfl rfl
    · refine e_iload_n rfl rfl (xnm_no rfl) ?_
      obtain ⟨g1, h⟩ := xgd_some h
      refine e_aload_n rfl rfl (xnb g1) (xnm_no rfl) ?_
      refine e_iload_n rfl rfl (xnm_no rfl) ?_
      obtain ⟨w2, hw3, h⟩ := xbd_some h
      refine e_cIS (hc := hw3) (rest := [.int _]) rfl rfl rfl rfl rfl rfl rfl rfl (xnm_no rfl) ?_
      obtain ⟨w4, hw5, h⟩ := xbd_some h
      refine e_cIS (hc := hw5) (rest := [.int _]) rfl rfl rfl rfl rfl rfl rfl rfl (xnm_no rfl) ?_
      refine e_iadd rfl (xnm_no rfl) ?_
      refine e_istore_n rfl rfl (xnm_no rfl) ?_
      refine e_iinc (y := 1) rfl rfl rfl (by decide) (xnm_no rfl) ?_
      refine e_goto (t := 4) rfl rfl rfl ?_
      exact xlfI h
set_option maxRecDepth 4000 in
theorem fX8_fits_i (v0 : Nat) (v1 : Nat) (v2 : Nat) (v3 : Int32) (v4 : Int32) (m : xmm) {z : Int32 × xmm} (h : (bX8_fits_3 v0 v1 v2 v3 v4 (0 : Int32) m) = some z) : fX8_fits v0 v1 v2 v3 v4 m = some z := by
  refine xstI ?_
  show xT 95 1 0 [(0, .ref v0), (1, .ref v1), (2, .ref v2), (3, .int v3), (4, .int v4)] [] m (some (.int z.1), z.2)
  refine e_iconst (x := 0) rfl (by decide) (xnm_no rfl) ?_
  refine e_istore rfl rfl rfl ?_
  exact xlfI h
set_option maxRecDepth 4000 in
theorem bX8_fits_3_i (v0 : Nat) (v1 : Nat) (v2 : Nat) (v3 : Int32) (v4 : Int32) (v5 : Int32) (m : xmm) {z : Int32 × xmm} (h : (if v3 ≤ v5 then some ((1 : Int32), m) else xgd (!(Nat.beq v0 1999)) (xgd (xia 1 v0 v3) ((fX11_contains (m.1 v0 (v3).toNatClampNeg) v5 m).bind fun (w3 : Int32 × xmm) => xgd (!(Nat.beq v1 1999)) (xgd (xia 1 v1 v4) (xgd (!(Nat.beq v2 1999)) (xgd (xia 1 v2 v5) ((fX11_contains (w3.2.1 v1 (v4).toNatClampNeg) (w3.2.1 v2 (v5).toNatClampNeg) w3.2).bind fun (w9 : Int32 × xmm) => if w3.1 = w9.1 then bX8_fits_3 v0 v1 v2 v3 v4 (v5 + (1 : Int32)) w9.2 else some ((0 : Int32), w9.2)))))))) = some z) : bX8_fits_3 v0 v1 v2 v3 v4 v5 m = some z := by
  refine xstI ?_
  show xT 95 1 3 [(0, .ref v0), (1, .ref v1), (2, .ref v2), (3, .int v3), (4, .int v4), (5, .int v5)] [] m (some (.int z.1), z.2)
  refine e_iload rfl rfl (xnm_no rfl) ?_
  refine e_iload_n rfl rfl (xnm_no rfl) ?_
  refine e_icmp_ge (t := 39) rfl rfl (xnm_no rfl) (xnm_no rfl) h (fun h => ?_) (fun h => ?_)
  · refine e_iconst (x := 1) rfl (by decide) (xnm_no rfl) ?_
    cases h
    exact e_retI rfl (by decide)
  · obtain ⟨g1, h⟩ := xgd_some h
    refine e_aload_n rfl rfl (xnb g1) (xnm_no rfl) ?_
    refine e_iload_n rfl rfl (xnm_no rfl) ?_
    obtain ⟨g2, h⟩ := xgd_some h
    refine e_iald rfl g2 (xnm_no rfl) ?_
    refine e_iload rfl rfl (xnm_no rfl) ?_
    obtain ⟨w3, hw4, h⟩ := xbd_some h
    refine e_cIS (hc := hw4) (rest := []) rfl rfl rfl rfl rfl rfl rfl rfl (xnm_no rfl) ?_
    obtain ⟨g5, h⟩ := xgd_some h
    refine e_aload_n rfl rfl (xnb g5) (xnm_no rfl) ?_
    refine e_iload rfl rfl (xnm_no rfl) ?_
    obtain ⟨g6, h⟩ := xgd_some h
    refine e_iald rfl g6 (xnm_no rfl) ?_
    obtain ⟨g7, h⟩ := xgd_some h
    refine e_aload_n rfl rfl (xnb g7) (xnm_no rfl) ?_
    refine e_iload rfl rfl (xnm_no rfl) ?_
    obtain ⟨g8, h⟩ := xgd_some h
    refine e_iald rfl g8 (xnm_no rfl) ?_
    obtain ⟨w9, hw10, h⟩ := xbd_some h
    refine e_cIS (hc := hw10) (rest := [.int _]) rfl rfl rfl rfl rfl rfl rfl rfl (xnm_no rfl) ?_
    refine e_icmp_eq (t := 33) rfl rfl (xnm_no rfl) (xnm_no rfl) h (fun h => ?_) (fun h => ?_)
    · refine e_iinc (y := 1) rfl rfl rfl (by decide) (xnm_no rfl) ?_
      refine e_goto (t := 3) rfl rfl rfl ?_
      exact xlfI h
    · refine e_iconst (x := 0) rfl (by decide) (xnm_no rfl) ?_
      cases h
      exact e_retI rfl (by decide)
set_option maxRecDepth 4000 in
theorem fX8_canSend_i (v0 : Nat) (v1 : Nat) (v2 : Nat) (v3 : Int32) (v4 : Int32) (v5 : Int32) (m : xmm) {z : Int32 × xmm} (h : (if v4 ≤ v3 then some ((1 : Int32), m) else if v3 < (8 : Int32) then bX8_canSend_17 (xrk 96 [.ref v0, .ref v1, .ref v2, .int v3, .int v4, .int v5]) v0 v1 v2 v3 v4 v5 (0 : Int32) m else some ((1 : Int32), m)) = some z) : fX8_canSend v0 v1 v2 v3 v4 v5 m = some z := by
  refine xstI ?_
  show xT 96 (xrk 96 [.ref v0, .ref v1, .ref v2, .int v3, .int v4, .int v5]) 0 [(0, .ref v0), (1, .ref v1), (2, .ref v2), (3, .int v3), (4, .int v4), (5, .int v5)] [] m (some (.int z.1), z.2)
  refine e_iload_n rfl rfl (xnm_no rfl) ?_
  refine e_iload rfl rfl (xnm_no rfl) ?_
  refine e_icmp_ge (t := 12) rfl rfl (xnm_no rfl) (xnm_no rfl) h (fun h => ?_) (fun h => ?_)
  · refine e_iconst (x := 1) rfl (by decide) (xnm_no rfl) ?_
    cases h
    exact e_retI rfl (by decide)
  · refine e_iload_n rfl rfl (xnm_no rfl) ?_
    refine e_bipush (x := 8) rfl (by decide) (xnm_no rfl) ?_
    refine e_icmp_lt (t := 14) rfl rfl (xnm_no rfl) (xnm_no rfl) h (fun h => ?_) (fun h => ?_)
    · refine e_iconst (x := 0) rfl (by decide) (xnm_no rfl) ?_
      refine e_istore rfl rfl rfl ?_
      exact xlfI h
    · refine e_iconst (x := 1) rfl (by decide) (xnm_no rfl) ?_
      cases h
      exact e_retI rfl (by decide)
set_option maxRecDepth 4000 in
theorem bX8_canSend_17_i (rk : Nat) (v0 : Nat) (v1 : Nat) (v2 : Nat) (v3 : Int32) (v4 : Int32) (v5 : Int32) (v6 : Int32) (m : xmm) {z : Int32 × xmm} (h : (if v4 ≤ v6 then some ((0 : Int32), m) else xgd (xcg 96 rk 146 [.int v5, .int v6] []) ((fX11_contains v5 v6 m).bind fun (w1 : Int32 × xmm) => if w1.1 = 0 then xgd (!(Nat.beq v0 1999)) (xgd (!(Nat.beq v1 1999)) (xgd (!(Nat.beq v2 1999)) (xgd (xcg 96 rk 95 [.ref v0, .ref v1, .ref v2, .int v3, .int v6] []) ((fX8_fits v0 v1 v2 v3 v6 w1.2).bind fun (w7 : Int32 × xmm) => if w7.1 = 0 then bX8_canSend_17 rk v0 v1 v2 v3 v4 v5 (v6 + (1 : Int32)) w7.2 else xgd (xia 1 v2 v3) (xlt (xwi w7.2 v2 (v3).toNatClampNeg v6) fun (m11 : xmm) => xgd (xcg 96 rk 96 [.ref v0, .ref v1, .ref v2, .int (v3 + (1 : Int32)), .int v4, .int (v5 ||| ((1 : Int32) <<< (v6 &&& 31)))] []) ((fX8_canSend v0 v1 v2 (v3 + (1 : Int32)) v4 (v5 ||| ((1 : Int32) <<< (v6 &&& 31))) m11).bind fun (w12 : Int32 × xmm) => if w12.1 = 0 then bX8_canSend_17 rk v0 v1 v2 v3 v4 v5 (v6 + (1 : Int32)) w12.2 else some ((1 : Int32), w12.2))))))) else bX8_canSend_17 rk v0 v1 v2 v3 v4 v5 (v6 + (1 : Int32)) w1.2)) = some z) : bX8_canSend_17 rk v0 v1 v2 v3 v4 v5 v6 m = some z := by
  refine xstI ?_
  show xT 96 rk 17 [(0, .ref v0), (1, .ref v1), (2, .ref v2), (3, .int v3), (4, .int v4), (5, .int v5), (6, .int v6)] [] m (some (.int z.1), z.2)
  refine e_iload rfl rfl (xnm_no rfl) ?_
  refine e_iload rfl rfl (xnm_no rfl) ?_
  refine e_icmp_ge (t := 80) rfl rfl (xnm_no rfl) (xnm_no rfl) h (fun h => ?_) (fun h => ?_)
  · refine e_iconst (x := 0) rfl (by decide) (xnm_no rfl) ?_
    cases h
    exact e_retI rfl (by decide)
  · refine e_iload rfl rfl (xnm_no rfl) ?_
    refine e_iload rfl rfl (xnm_no rfl) ?_
    obtain ⟨g3, h⟩ := xgd_some h
    obtain ⟨w1, hw2, h⟩ := xbd_some h
    refine e_cIS (hc := hw2) (rest := []) rfl rfl rfl rfl rfl rfl g3 rfl (xnm_no rfl) ?_
    refine e_if_ne (t := 74) rfl rfl (xnm_no rfl) (xnm_no rfl) h (fun h => ?_) (fun h => ?_)
    · refine e_iinc (y := 1) rfl rfl rfl (by decide) (xnm_no rfl) ?_
      refine e_goto (t := 17) rfl rfl rfl ?_
      exact xlfI h
    · obtain ⟨g4, h⟩ := xgd_some h
      refine e_aload_n rfl rfl (xnb g4) (xnm_no rfl) ?_
      obtain ⟨g5, h⟩ := xgd_some h
      refine e_aload_n rfl rfl (xnb g5) (xnm_no rfl) ?_
      obtain ⟨g6, h⟩ := xgd_some h
      refine e_aload_n rfl rfl (xnb g6) (xnm_no rfl) ?_
      refine e_iload_n rfl rfl (xnm_no rfl) ?_
      refine e_iload rfl rfl (xnm_no rfl) ?_
      obtain ⟨g9, h⟩ := xgd_some h
      obtain ⟨w7, hw8, h⟩ := xbd_some h
      refine e_cIS (hc := hw8) (rest := []) rfl rfl rfl rfl rfl rfl g9 rfl (xnm_no rfl) ?_
      refine e_if_eq (t := 74) rfl rfl (xnm_no rfl) (xnm_no rfl) h (fun h => ?_) (fun h => ?_)
      · refine e_iinc (y := 1) rfl rfl rfl (by decide) (xnm_no rfl) ?_
        refine e_goto (t := 17) rfl rfl rfl ?_
        exact xlfI h
      · refine e_aload_n rfl rfl (xnb g6) (xnm_no rfl) ?_
        refine e_iload_n rfl rfl (xnm_no rfl) ?_
        refine e_iload rfl rfl (xnm_no rfl) ?_
        obtain ⟨g10, h⟩ := xgd_some h
        refine e_iast rfl g10 (xnm_no rfl) ?_
        replace h := xlt_b h
        refine e_aload_n rfl rfl (xnb g4) (xnm_no rfl) ?_
        refine e_aload_n rfl rfl (xnb g5) (xnm_no rfl) ?_
        refine e_aload_n rfl rfl (xnb g6) (xnm_no rfl) ?_
        refine e_iload_n rfl rfl (xnm_no rfl) ?_
        refine e_iconst (x := 1) rfl (by decide) (xnm_no rfl) ?_
        refine e_iadd rfl (xnm_no rfl) ?_
        refine e_iload rfl rfl (xnm_no rfl) ?_
        refine e_iload rfl rfl (xnm_no rfl) ?_
        refine e_iconst (x := 1) rfl (by decide) (xnm_no rfl) ?_
        refine e_iload rfl rfl (xnm_no rfl) ?_
        refine e_ishl rfl (xnm_no rfl) ?_
        refine e_ior rfl (xnm_no rfl) ?_
        obtain ⟨g14, h⟩ := xgd_some h
        obtain ⟨w12, hw13, h⟩ := xbd_some h
        refine e_cIS (hc := hw13) (rest := []) rfl rfl rfl rfl rfl rfl g14 rfl (xnm_no rfl) ?_
        refine e_if_eq (t := 74) rfl rfl (xnm_no rfl) (xnm_no rfl) h (fun h => ?_) (fun h => ?_)
        · refine e_iinc (y := 1) rfl rfl rfl (by decide) (xnm_no rfl) ?_
          refine e_goto (t := 17) rfl rfl rfl ?_
          exact xlfI h
        · refine e_iconst (x := 1) rfl (by decide) (xnm_no rfl) ?_
          cases h
          exact e_retI rfl (by decide)
set_option maxRecDepth 4000 in
theorem fX8_waysToItself_136_i (v1 : Nat) (v2 : Int32) (m : xmm) {z : Int32 × xmm} (h : (bX8_waysToItself_136_5 v1 v2 (1 : Int32) (0 : Int32) m) = some z) : fX8_waysToItself_136 v1 v2 m = some z := by
  refine xstI ?_
  show xT 94 12 0 [(0, .ref 136), (1, .ref v1), (2, .int v2)] [] m (some (.int z.1), z.2)
  refine e_iconst (x := 1) rfl (by decide) (xnm_no rfl) ?_
  refine e_istore_n rfl rfl (xnm_no rfl) ?_
  refine e_iconst (x := 0) rfl (by decide) (xnm_no rfl) ?_
  refine e_istore rfl rfl rfl ?_
  exact xlfI h
set_option maxRecDepth 4000 in
theorem bX8_waysToItself_136_5_i (v1 : Nat) (v2 : Int32) (v3 : Int32) (v4 : Int32) (m : xmm) {z : Int32 × xmm} (h : (if v2 ≤ v4 then some (v3, m) else bX8_waysToItself_136_26 v1 v2 v3 v4 (0 : Int32) (((1 : Int32) <<< (v4 &&& 31)) - (1 : Int32)) v4 m) = some z) : bX8_waysToItself_136_5 v1 v2 v3 v4 m = some z := by
  refine xstI ?_
  show xT 94 12 5 [(0, .ref 136), (1, .ref v1), (2, .int v2), (3, .int v3), (4, .int v4)] [] m (some (.int z.1), z.2)
  refine e_iload rfl rfl (xnm_no rfl) ?_
  refine e_iload_n rfl rfl (xnm_no rfl) ?_
  refine e_icmp_ge (t := 112) rfl rfl (xnm_no rfl) (xnm_no rfl) h (fun h => ?_) (fun h => ?_)
  · refine e_iload_n rfl rfl (xnm_no rfl) ?_
    cases h
    exact e_retI rfl rfl
  · refine e_iconst (x := 0) rfl (by decide) (xnm_no rfl) ?_
    refine e_istore rfl rfl (xnm_no rfl) ?_
    refine e_iconst (x := 1) rfl (by decide) (xnm_no rfl) ?_
    refine e_iload rfl rfl (xnm_no rfl) ?_
    refine e_ishl rfl (xnm_no rfl) ?_
    refine e_iconst (x := 1) rfl (by decide) (xnm_no rfl) ?_
    refine e_isub rfl (xnm_no rfl) ?_
    refine e_istore rfl rfl (xnm_no rfl) ?_
    refine e_iload rfl rfl (xnm_no rfl) ?_
    refine e_istore rfl rfl rfl ?_
    exact xlfI h
set_option maxRecDepth 4000 in
theorem bX8_waysToItself_136_26_i (v1 : Nat) (v2 : Int32) (v3 : Int32) (v4 : Int32) (v5 : Int32) (v6 : Int32) (v7 : Int32) (m : xmm) {z : Int32 × xmm} (h : (if v2 ≤ v7 then xgd (xinb 8 v4) (xlt (xwi m 137 (v4).toNatClampNeg v4) fun (m2 : xmm) => bX8_waysToItself_136_5 v1 v2 (v3 * v5) (v4 + (1 : Int32)) m2) else xgd (!(Nat.beq v1 1999)) ((fX8_fits v1 v1 137 v4 v7 m).bind fun (w4 : Int32 × xmm) => if w4.1 = 0 then bX8_waysToItself_136_26 v1 v2 v3 v4 v5 v6 (v7 + (1 : Int32)) w4.2 else xgd (xinb 8 v4) (xlt (xwi w4.2 137 (v4).toNatClampNeg v7) fun (m7 : xmm) => xgd (xcg 94 12 96 [.ref v1, .ref v1, .ref 137, .int (v4 + (1 : Int32)), .int v2, .int (v6 ||| ((1 : Int32) <<< (v7 &&& 31)))] [.int v5]) ((fX8_canSend v1 v1 137 (v4 + (1 : Int32)) v2 (v6 ||| ((1 : Int32) <<< (v7 &&& 31))) m7).bind fun (w8 : Int32 × xmm) => (fX11_bit w8.1 w8.2).bind fun (w11 : Int32 × xmm) => bX8_waysToItself_136_26 v1 v2 v3 v4 (v5 + w11.1) v6 (v7 + (1 : Int32)) w11.2)))) = some z) : bX8_waysToItself_136_26 v1 v2 v3 v4 v5 v6 v7 m = some z := by
  refine xstI ?_
  show xT 94 12 26 [(0, .ref 136), (1, .ref v1), (2, .int v2), (3, .int v3), (4, .int v4), (5, .int v5), (6, .int v6), (7, .int v7)] [] m (some (.int z.1), z.2)
  refine e_iload rfl rfl (xnm_no rfl) ?_
  refine e_iload_n rfl rfl (xnm_no rfl) ?_
  refine e_icmp_ge (t := 92) rfl rfl (xnm_no rfl) (xnm_no rfl) h (fun h => ?_) (fun h => ?_)
  · refine e_aload_n rfl rfl rfl (xnm_no rfl) ?_
    refine e_getR (r := 137) rfl rfl rfl rfl rfl (xnm_no rfl) ?_
    refine e_iload rfl rfl (xnm_no rfl) ?_
    refine e_iload rfl rfl (xnm_no rfl) ?_
    obtain ⟨g1, h⟩ := xgd_some h
    refine e_iast rfl g1 (xnm_no rfl) ?_
    replace h := xlt_b h
    refine e_iload_n rfl rfl (xnm_no rfl) ?_
    refine e_iload rfl rfl (xnm_no rfl) ?_
    refine e_imul rfl (xnm_no rfl) ?_
    refine e_istore_n rfl rfl (xnm_no rfl) ?_
    refine e_iinc (y := 1) rfl rfl rfl (by decide) (xnm_no rfl) ?_
    refine e_goto (t := 5) rfl rfl rfl ?_
    exact xlfI h
  · obtain ⟨g3, h⟩ := xgd_some h
    refine e_aload_n rfl rfl (xnb g3) (xnm_no rfl) ?_
    refine e_aload_n rfl rfl (xnb g3) (xnm_no rfl) ?_
    refine e_aload_n rfl rfl rfl (xnm_no rfl) ?_
    refine e_getR (r := 137) rfl rfl rfl rfl rfl (xnm_no rfl) ?_
    refine e_iload rfl rfl (xnm_no rfl) ?_
    refine e_iload rfl rfl (xnm_no rfl) ?_
    obtain ⟨w4, hw5, h⟩ := xbd_some h
    refine e_cIS (hc := hw5) (rest := []) rfl rfl rfl rfl rfl rfl rfl rfl (xnm_no rfl) ?_
    refine e_if_eq (t := 86) rfl rfl (xnm_no rfl) (xnm_no rfl) h (fun h => ?_) (fun h => ?_)
    · refine e_iinc (y := 1) rfl rfl rfl (by decide) (xnm_no rfl) ?_
      refine e_goto (t := 26) rfl rfl rfl ?_
      exact xlfI h
    · refine e_aload_n rfl rfl rfl (xnm_no rfl) ?_
      refine e_getR (r := 137) rfl rfl rfl rfl rfl (xnm_no rfl) ?_
      refine e_iload rfl rfl (xnm_no rfl) ?_
      refine e_iload rfl rfl (xnm_no rfl) ?_
      obtain ⟨g6, h⟩ := xgd_some h
      refine e_iast rfl g6 (xnm_no rfl) ?_
      replace h := xlt_b h
      refine e_iload rfl rfl (xnm_no rfl) ?_
      refine e_aload_n rfl rfl (xnb g3) (xnm_no rfl) ?_
      refine e_aload_n rfl rfl (xnb g3) (xnm_no rfl) ?_
      refine e_aload_n rfl rfl rfl (xnm_no rfl) ?_
      refine e_getR (r := 137) rfl rfl rfl rfl rfl (xnm_no rfl) ?_
      refine e_iload rfl rfl (xnm_no rfl) ?_
      refine e_iconst (x := 1) rfl (by decide) (xnm_no rfl) ?_
      refine e_iadd rfl (xnm_no rfl) ?_
      refine e_iload_n rfl rfl (xnm_no rfl) ?_
      refine e_iload rfl rfl (xnm_no rfl) ?_
      refine e_iconst (x := 1) rfl (by decide) (xnm_no rfl) ?_
      refine e_iload rfl rfl (xnm_no rfl) ?_
      refine e_ishl rfl (xnm_no rfl) ?_
      refine e_ior rfl (xnm_no rfl) ?_
      obtain ⟨g10, h⟩ := xgd_some h
      obtain ⟨w8, hw9, h⟩ := xbd_some h
      refine e_cIS (hc := hw9) (rest := [.int _]) rfl rfl rfl rfl rfl rfl g10 rfl (xnm_no rfl) ?_
      obtain ⟨w11, hw12, h⟩ := xbd_some h
      refine e_cIS (hc := hw12) (rest := [.int _]) rfl rfl rfl rfl rfl rfl rfl rfl (xnm_no rfl) ?_
      refine e_iadd rfl (xnm_no rfl) ?_
      refine e_istore rfl rfl (xnm_no rfl) ?_
      refine e_iinc (y := 1) rfl rfl rfl (by decide) (xnm_no rfl) ?_
      refine e_goto (t := 26) rfl rfl rfl ?_
      exact xlfI h
set_option maxRecDepth 4000 in
theorem fX8_ways_136_10_10_i (m : xmm) {z : Int32 × xmm} (h : (xlt (if (8 : Int32) < (m.1 10 0) then (8 : Int32) else (m.1 10 0)) fun (x1 : Int32) => if (m.1 10 0) = (m.1 10 0) then xgd (xcg 93 13 96 [.ref 11, .ref 11, .ref 137, .int (0 : Int32), .int x1, .int (0 : Int32)] []) ((fX8_canSend 11 11 137 (0 : Int32) x1 (0 : Int32) m).bind fun (w2 : Int32 × xmm) => if w2.1 = 0 then some ((0 : Int32), w2.2) else (fX8_waysToItself_136 11 x1 w2.2).bind fun (w5 : Int32 × xmm) => some (w5.1, w5.2)) else some ((0 : Int32), m)) = some z) : fX8_ways_136_10_10 m = some z := by
  refine xstI ?_
  show xT 93 13 0 [(0, .ref 136), (1, .ref 10), (2, .ref 10)] [] m (some (.int z.1), z.2)
  refine e_aload_n rfl rfl rfl (xnm_no rfl) ?_
  refine e_getI rfl rfl rfl rfl (xnm_no rfl) ?_
  refine e_bipush (x := 8) rfl (by decide) (xnm_no rfl) ?_
  refine e_min rfl rfl rfl (xnm_no rfl) ?_
  replace h := xlt_b h
  refine e_istore_n rfl rfl (xnm_no rfl) ?_
  refine e_aload_n rfl rfl rfl (xnm_no rfl) ?_
  refine e_getI rfl rfl rfl rfl (xnm_no rfl) ?_
  refine e_aload_n rfl rfl rfl (xnm_no rfl) ?_
  refine e_getI rfl rfl rfl rfl (xnm_no rfl) ?_
  refine e_icmp_ne (t := 42) rfl rfl (xnm_no rfl) (xnm_no rfl) h (fun h => ?_) (fun h => ?_)
  · refine e_iconst (x := 0) rfl (by decide) (xnm_no rfl) ?_
    cases h
    exact e_retI rfl rfl
  · refine e_aload_n rfl rfl rfl (xnm_no rfl) ?_
    refine e_getR (r := 11) rfl rfl rfl rfl rfl (xnm_no rfl) ?_
    refine e_aload_n rfl rfl rfl (xnm_no rfl) ?_
    refine e_getR (r := 11) rfl rfl rfl rfl rfl (xnm_no rfl) ?_
    refine e_aload_n rfl rfl rfl (xnm_no rfl) ?_
    refine e_getR (r := 137) rfl rfl rfl rfl rfl (xnm_no rfl) ?_
    refine e_iconst (x := 0) rfl (by decide) (xnm_no rfl) ?_
    refine e_iload_n rfl rfl (xnm_no rfl) ?_
    refine e_iconst (x := 0) rfl (by decide) (xnm_no rfl) ?_
    obtain ⟨g4, h⟩ := xgd_some h
    obtain ⟨w2, hw3, h⟩ := xbd_some h
    refine e_cIS (hc := hw3) (rest := []) rfl rfl rfl rfl rfl rfl g4 rfl (xnm_no rfl) ?_
    refine e_if_ne (t := 44) rfl rfl (xnm_no rfl) (xnm_no rfl) h (fun h => ?_) (fun h => ?_)
    · refine e_aload_n rfl rfl rfl (xnm_no rfl) ?_
      refine e_aload_n rfl rfl rfl (xnm_no rfl) ?_
      refine e_getR (r := 11) rfl rfl rfl rfl rfl (xnm_no rfl) ?_
      refine e_iload_n rfl rfl (xnm_no rfl) ?_
      obtain ⟨w5, hw6, h⟩ := xbd_some h
      refine e_cIV (hc := hw6) (rest := []) rfl rfl rfl rfl rfl rfl rfl rfl (xnm_no rfl) ?_
      cases h
      exact e_retI rfl rfl
    · refine e_iconst (x := 0) rfl (by decide) (xnm_no rfl) ?_
      cases h
      exact e_retI rfl rfl
set_option maxRecDepth 4000 in
theorem fX11_count_0_i (v1 : Int32) (m : xmm) {z : Int32 × xmm} (h : ((fX11_study_0 m).bind fun (w1 : xmm) => (fX3_everyPost 10 w1).bind fun (w3 : Int32 × xmm) => if v1 = 0 then some ((w3.2.1 10 0), w3.2) else if v1 = 1 then (fX3_countLines 10 w3.2).bind fun (w7 : Int32 × xmm) => some (w7.1, w7.2) else if v1 = 2 then (fX9_countAlike 11 w3.1 w3.2).bind fun (w10 : Int32 × xmm) => some (w10.1, w10.2) else if v1 = 3 then (fX9_countRounds 11 w3.1 w3.2).bind fun (w13 : Int32 × xmm) => some (w13.1, w13.2) else if v1 = 4 then (fX9_countApart 13 w3.1 w3.2).bind fun (w16 : Int32 × xmm) => some (w16.1, w16.2) else if v1 = 5 then (fX9_countApart 11 w3.1 w3.2).bind fun (w19 : Int32 × xmm) => some (w19.1, w19.2) else if v1 = 6 then (fX8_ways_136_10_10 w3.2).bind fun (w22 : Int32 × xmm) => some (w22.1, w22.2) else if v1 = 7 then (fX11_bit (w3.2.1 10 1) w3.2).bind fun (w25 : Int32 × xmm) => some (w25.1, w25.2) else if v1 = 8 then some ((w3.2.1 1 1), w3.2) else if v1 = 9 then some ((w3.2.1 14 2), w3.2) else if v1 = 10 then (fJ6_bitCount (w3.2.1 0 5) w3.2).bind fun (w30 : Int32 × xmm) => some (w30.1, w30.2) else some ((-1 : Int32), w3.2)) = some z) : fX11_count_0 v1 m = some z := by
  refine xstI ?_
  show xT 142 14 0 [(0, .ref 0), (1, .int v1)] [] m (some (.int z.1), z.2)
  refine e_aload_n rfl rfl rfl (xnm_no rfl) ?_
  obtain ⟨w1, hw2, h⟩ := xbd_some h
  refine e_cVV (hc := hw2) (rest := []) rfl rfl rfl rfl rfl rfl rfl rfl (xnm_no rfl) ?_
  refine e_aload_n rfl rfl rfl (xnm_no rfl) ?_
  refine e_getR (r := 10) rfl rfl rfl rfl rfl (xnm_no rfl) ?_
  obtain ⟨w3, hw4, h⟩ := xbd_some h
  refine e_cIV (hc := hw4) (rest := []) rfl rfl rfl rfl rfl rfl rfl rfl (xnm_no rfl) ?_
  refine e_istore_n rfl rfl (xnm_no rfl) ?_
  refine e_iload_n rfl rfl (xnm_no rfl) ?_
  by_cases c5 : v1 = 0
  · rw [if_pos c5] at h
    refine e_sw (t := 72) (o := 59) rfl (by decide) (xsw_p c5) rfl (xnm_no rfl) ?_
    refine e_aload_n rfl rfl rfl (xnm_no rfl) ?_
    refine e_getR (r := 10) rfl rfl rfl rfl rfl (xnm_no rfl) ?_
    refine e_getI rfl rfl rfl rfl (xnm_no rfl) ?_
    cases h
    exact e_retI rfl rfl
  · rw [if_neg c5] at h
    by_cases c6 : v1 = 1
    · rw [if_pos c6] at h
      refine e_sw (t := 80) (o := 67) rfl (by decide) (xsw_n c5 (xsw_p c6)) rfl (xnm_no rfl) ?_
      refine e_aload_n rfl rfl rfl (xnm_no rfl) ?_
      refine e_getR (r := 10) rfl rfl rfl rfl rfl (xnm_no rfl) ?_
      obtain ⟨w7, hw8, h⟩ := xbd_some h
      refine e_cIV (hc := hw8) (rest := []) rfl rfl rfl rfl rfl rfl rfl rfl (xnm_no rfl) ?_
      cases h
      exact e_retI rfl rfl
    · rw [if_neg c6] at h
      by_cases c9 : v1 = 2
      · rw [if_pos c9] at h
        refine e_sw (t := 88) (o := 75) rfl (by decide) (xsw_n c5 (xsw_n c6 (xsw_p c9))) rfl (xnm_no rfl) ?_
        refine e_aload_n rfl rfl rfl (xnm_no rfl) ?_
        refine e_getR (r := 10) rfl rfl rfl rfl rfl (xnm_no rfl) ?_
        refine e_getR (r := 11) rfl rfl rfl rfl rfl (xnm_no rfl) ?_
        refine e_iload_n rfl rfl (xnm_no rfl) ?_
        obtain ⟨w10, hw11, h⟩ := xbd_some h
        refine e_cIS (hc := hw11) (rest := []) rfl rfl rfl rfl rfl rfl rfl rfl (xnm_no rfl) ?_
        cases h
        exact e_retI rfl rfl
      · rw [if_neg c9] at h
        by_cases c12 : v1 = 3
        · rw [if_pos c12] at h
          refine e_sw (t := 100) (o := 87) rfl (by decide) (xsw_n c5 (xsw_n c6 (xsw_n c9 (xsw_p c12)))) rfl (xnm_no rfl) ?_
          refine e_aload_n rfl rfl rfl (xnm_no rfl) ?_
          refine e_getR (r := 10) rfl rfl rfl rfl rfl (xnm_no rfl) ?_
          refine e_getR (r := 11) rfl rfl rfl rfl rfl (xnm_no rfl) ?_
          refine e_iload_n rfl rfl (xnm_no rfl) ?_
          obtain ⟨w13, hw14, h⟩ := xbd_some h
          refine e_cIS (hc := hw14) (rest := []) rfl rfl rfl rfl rfl rfl rfl rfl (xnm_no rfl) ?_
          cases h
          exact e_retI rfl rfl
        · rw [if_neg c12] at h
          by_cases c15 : v1 = 4
          · rw [if_pos c15] at h
            refine e_sw (t := 112) (o := 99) rfl (by decide) (xsw_n c5 (xsw_n c6 (xsw_n c9 (xsw_n c12 (xsw_p c15))))) rfl (xnm_no rfl) ?_
            refine e_aload_n rfl rfl rfl (xnm_no rfl) ?_
            refine e_getR (r := 12) rfl rfl rfl rfl rfl (xnm_no rfl) ?_
            refine e_getR (r := 13) rfl rfl rfl rfl rfl (xnm_no rfl) ?_
            refine e_iload_n rfl rfl (xnm_no rfl) ?_
            obtain ⟨w16, hw17, h⟩ := xbd_some h
            refine e_cIS (hc := hw17) (rest := []) rfl rfl rfl rfl rfl rfl rfl rfl (xnm_no rfl) ?_
            cases h
            exact e_retI rfl rfl
          · rw [if_neg c15] at h
            by_cases c18 : v1 = 5
            · rw [if_pos c18] at h
              refine e_sw (t := 124) (o := 111) rfl (by decide) (xsw_n c5 (xsw_n c6 (xsw_n c9 (xsw_n c12 (xsw_n c15 (xsw_p c18)))))) rfl (xnm_no rfl) ?_
              refine e_aload_n rfl rfl rfl (xnm_no rfl) ?_
              refine e_getR (r := 10) rfl rfl rfl rfl rfl (xnm_no rfl) ?_
              refine e_getR (r := 11) rfl rfl rfl rfl rfl (xnm_no rfl) ?_
              refine e_iload_n rfl rfl (xnm_no rfl) ?_
              obtain ⟨w19, hw20, h⟩ := xbd_some h
              refine e_cIS (hc := hw20) (rest := []) rfl rfl rfl rfl rfl rfl rfl rfl (xnm_no rfl) ?_
              cases h
              exact e_retI rfl rfl
            · rw [if_neg c18] at h
              by_cases c21 : v1 = 6
              · rw [if_pos c21] at h
                refine e_sw (t := 136) (o := 123) rfl (by decide) (xsw_n c5 (xsw_n c6 (xsw_n c9 (xsw_n c12 (xsw_n c15 (xsw_n c18 (xsw_p c21))))))) rfl (xnm_no rfl) ?_
                refine e_aload_n rfl rfl rfl (xnm_no rfl) ?_
                refine e_getR (r := 136) rfl rfl rfl rfl rfl (xnm_no rfl) ?_
                refine e_aload_n rfl rfl rfl (xnm_no rfl) ?_
                refine e_getR (r := 10) rfl rfl rfl rfl rfl (xnm_no rfl) ?_
                refine e_aload_n rfl rfl rfl (xnm_no rfl) ?_
                refine e_getR (r := 10) rfl rfl rfl rfl rfl (xnm_no rfl) ?_
                obtain ⟨w22, hw23, h⟩ := xbd_some h
                refine e_cIV (hc := hw23) (rest := []) rfl rfl rfl rfl rfl rfl rfl rfl (xnm_no rfl) ?_
                cases h
                exact e_retI rfl rfl
              · rw [if_neg c21] at h
                by_cases c24 : v1 = 7
                · rw [if_pos c24] at h
                  refine e_sw (t := 152) (o := 139) rfl (by decide) (xsw_n c5 (xsw_n c6 (xsw_n c9 (xsw_n c12 (xsw_n c15 (xsw_n c18 (xsw_n c21 (xsw_p c24)))))))) rfl (xnm_no rfl) ?_
                  refine e_aload_n rfl rfl rfl (xnm_no rfl) ?_
                  refine e_getR (r := 10) rfl rfl rfl rfl rfl (xnm_no rfl) ?_
                  refine e_getI rfl rfl rfl rfl (xnm_no rfl) ?_
                  obtain ⟨w25, hw26, h⟩ := xbd_some h
                  refine e_cIS (hc := hw26) (rest := []) rfl rfl rfl rfl rfl rfl rfl rfl (xnm_no rfl) ?_
                  cases h
                  exact e_retI rfl rfl
                · rw [if_neg c24] at h
                  by_cases c27 : v1 = 8
                  · rw [if_pos c27] at h
                    refine e_sw (t := 163) (o := 150) rfl (by decide) (xsw_n c5 (xsw_n c6 (xsw_n c9 (xsw_n c12 (xsw_n c15 (xsw_n c18 (xsw_n c21 (xsw_n c24 (xsw_p c27))))))))) rfl (xnm_no rfl) ?_
                    refine e_aload_n rfl rfl rfl (xnm_no rfl) ?_
                    refine e_getR (r := 1) rfl rfl rfl rfl rfl (xnm_no rfl) ?_
                    refine e_getI rfl rfl rfl rfl (xnm_no rfl) ?_
                    cases h
                    exact e_retI rfl rfl
                  · rw [if_neg c27] at h
                    by_cases c28 : v1 = 9
                    · rw [if_pos c28] at h
                      refine e_sw (t := 171) (o := 158) rfl (by decide) (xsw_n c5 (xsw_n c6 (xsw_n c9 (xsw_n c12 (xsw_n c15 (xsw_n c18 (xsw_n c21 (xsw_n c24 (xsw_n c27 (xsw_p c28)))))))))) rfl (xnm_no rfl) ?_
                      refine e_aload_n rfl rfl rfl (xnm_no rfl) ?_
                      refine e_getR (r := 14) rfl rfl rfl rfl rfl (xnm_no rfl) ?_
                      refine e_getI rfl rfl rfl rfl (xnm_no rfl) ?_
                      cases h
                      exact e_retI rfl rfl
                    · rw [if_neg c28] at h
                      by_cases c29 : v1 = 10
                      · rw [if_pos c29] at h
                        refine e_sw (t := 179) (o := 166) rfl (by decide) (xsw_n c5 (xsw_n c6 (xsw_n c9 (xsw_n c12 (xsw_n c15 (xsw_n c18 (xsw_n c21 (xsw_n c24 (xsw_n c27 (xsw_n c28 (xsw_p c29))))))))))) rfl (xnm_no rfl) ?_
                        refine e_aload_n rfl rfl rfl (xnm_no rfl) ?_
                        refine e_getI rfl rfl rfl rfl (xnm_no rfl) ?_
                        obtain ⟨w30, hw31, h⟩ := xbd_some h
                        refine e_cIS (hc := hw31) (rest := []) rfl rfl rfl rfl rfl rfl rfl rfl (xnm_no rfl) ?_
                        cases h
                        exact e_retI rfl rfl
                      · rw [if_neg c29] at h
                        refine e_sw (t := 187) (o := 174) rfl (by decide) (xsw_n c5 (xsw_n c6 (xsw_n c9 (xsw_n c12 (xsw_n c15 (xsw_n c18 (xsw_n c21 (xsw_n c24 (xsw_n c27 (xsw_n c28 (xsw_n c29 xsw_d))))))))))) rfl (xnm_no rfl) ?_
                        refine e_iconst (x := -1) rfl (by decide) (xnm_no rfl) ?_
                        cases h
                        exact e_retI rfl rfl
set_option maxRecDepth 4000 in
theorem fX1_countAll_97_i (m : xmm) {z : Int32 × xmm} (h : (some ((m.1 97 3), m)) = some z) : fX1_countAll_97 m = some z := by
  refine xstI ?_
  show xT 10 0 0 [(0, .ref 97)] [] m (some (.int z.1), z.2)
  refine e_aload_n rfl rfl rfl (xnm_no rfl) ?_
  refine e_getI rfl rfl rfl rfl (xnm_no rfl) ?_
  cases h
  exact e_retI rfl rfl
set_option maxRecDepth 4000 in
theorem fX1_countOdd_97_i (m : xmm) {z : Int32 × xmm} (h : (some ((m.1 97 4), m)) = some z) : fX1_countOdd_97 m = some z := by
  refine xstI ?_
  show xT 11 0 0 [(0, .ref 97)] [] m (some (.int z.1), z.2)
  refine e_aload_n rfl rfl rfl (xnm_no rfl) ?_
  refine e_getI rfl rfl rfl rfl (xnm_no rfl) ?_
  cases h
  exact e_retI rfl rfl
set_option maxRecDepth 4000 in
theorem fX2_isOverlapped_130_i (v1 : Int32) (v2 : Int32) (m : xmm) {z : Int32 × xmm} (h : (bX2_isOverlapped_130_2 v1 v2 (1 : Int32) m) = some z) : fX2_isOverlapped_130 v1 v2 m = some z := by
  refine xstI ?_
  show xT 20 0 0 [(0, .ref 130), (1, .int v1), (2, .int v2)] [] m (some (.int z.1), z.2)
  refine e_iconst (x := 1) rfl (by decide) (xnm_no rfl) ?_
  refine e_istore_n rfl rfl rfl ?_
  exact xlfI h
set_option maxRecDepth 4000 in
theorem bX2_isOverlapped_130_2_i (v1 : Int32) (v2 : Int32) (v3 : Int32) (m : xmm) {z : Int32 × xmm} (h : (if v2 < v3 then some ((0 : Int32), m) else if (256 : Int32) ≤ v3 then some ((0 : Int32), m) else xgd (xinb 256 v3) (if (m.1 131 (v3).toNatClampNeg) = 0 then bX2_isOverlapped_130_2 v1 v2 (v3 + (1 : Int32)) m else if (v1 &&& v3) = 0 then bX2_isOverlapped_130_2 v1 v2 (v3 + (1 : Int32)) m else if (v1 &&& (v3 ^^^ (-1 : Int32))) = 0 then bX2_isOverlapped_130_2 v1 v2 (v3 + (1 : Int32)) m else if (v3 &&& (v1 ^^^ (-1 : Int32))) = 0 then bX2_isOverlapped_130_2 v1 v2 (v3 + (1 : Int32)) m else some ((1 : Int32), m))) = some z) : bX2_isOverlapped_130_2 v1 v2 v3 m = some z := by
  refine xstI ?_
  show xT 20 0 2 [(0, .ref 130), (1, .int v1), (2, .int v2), (3, .int v3)] [] m (some (.int z.1), z.2)
  refine e_iload_n rfl rfl (xnm_no rfl) ?_
  refine e_iload_n rfl rfl (xnm_no rfl) ?_
  refine e_icmp_gt (t := 53) rfl rfl (xnm_no rfl) (xnm_no rfl) h (fun h => ?_) (fun h => ?_)
  · refine e_iconst (x := 0) rfl (by decide) (xnm_no rfl) ?_
    cases h
    exact e_retI rfl (by decide)
  · refine e_iload_n rfl rfl (xnm_no rfl) ?_
    refine e_sipush (x := 256) rfl (by decide) (xnm_no rfl) ?_
    refine e_icmp_ge (t := 53) rfl rfl (xnm_no rfl) (xnm_no rfl) h (fun h => ?_) (fun h => ?_)
    · refine e_iconst (x := 0) rfl (by decide) (xnm_no rfl) ?_
      cases h
      exact e_retI rfl (by decide)
    · refine e_aload_n rfl rfl rfl (xnm_no rfl) ?_
      refine e_getR (r := 131) rfl rfl rfl rfl rfl (xnm_no rfl) ?_
      refine e_iload_n rfl rfl (xnm_no rfl) ?_
      obtain ⟨g1, h⟩ := xgd_some h
      refine e_bald rfl (xor2 g1) (xnm_no rfl) ?_
      refine e_if_eq (t := 47) rfl rfl (xnm_no rfl) (xnm_no rfl) h (fun h => ?_) (fun h => ?_)
      · refine e_iinc (y := 1) rfl rfl rfl (by decide) (xnm_no rfl) ?_
        refine e_goto (t := 2) rfl rfl rfl ?_
        exact xlfI h
      · refine e_iload_n rfl rfl (xnm_no rfl) ?_
        refine e_iload_n rfl rfl (xnm_no rfl) ?_
        refine e_iand rfl (xnm_no rfl) ?_
        refine e_if_eq (t := 47) rfl rfl (xnm_no rfl) (xnm_no rfl) h (fun h => ?_) (fun h => ?_)
        · refine e_iinc (y := 1) rfl rfl rfl (by decide) (xnm_no rfl) ?_
          refine e_goto (t := 2) rfl rfl rfl ?_
          exact xlfI h
        · refine e_iload_n rfl rfl (xnm_no rfl) ?_
          refine e_iload_n rfl rfl (xnm_no rfl) ?_
          refine e_iconst (x := -1) rfl (by decide) (xnm_no rfl) ?_
          refine e_ixor rfl (xnm_no rfl) ?_
          refine e_iand rfl (xnm_no rfl) ?_
          refine e_if_eq (t := 47) rfl rfl (xnm_no rfl) (xnm_no rfl) h (fun h => ?_) (fun h => ?_)
          · refine e_iinc (y := 1) rfl rfl rfl (by decide) (xnm_no rfl) ?_
            refine e_goto (t := 2) rfl rfl rfl ?_
            exact xlfI h
          · refine e_iload_n rfl rfl (xnm_no rfl) ?_
            refine e_iload_n rfl rfl (xnm_no rfl) ?_
            refine e_iconst (x := -1) rfl (by decide) (xnm_no rfl) ?_
            refine e_ixor rfl (xnm_no rfl) ?_
            refine e_iand rfl (xnm_no rfl) ?_
            refine e_if_eq (t := 47) rfl rfl (xnm_no rfl) (xnm_no rfl) h (fun h => ?_) (fun h => ?_)
            · refine e_iinc (y := 1) rfl rfl rfl (by decide) (xnm_no rfl) ?_
              refine e_goto (t := 2) rfl rfl rfl ?_
              exact xlfI h
            · refine e_iconst (x := 1) rfl (by decide) (xnm_no rfl) ?_
              cases h
              exact e_retI rfl (by decide)
