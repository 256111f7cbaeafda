set_option maxRecDepth 4000 in
theorem fX5_solve_123_109_i (v1 : Int32) (m : xmm) {z : xmm} (h : (xlt (xwi m 123 6 (if (8 : Int32) < v1 then (8 : Int32) else v1)) fun (m1 : xmm) => bX5_solve_123_109_12 (0 : Int32) m1) = some z) : fX5_solve_123_109 v1 m = some z := by
  refine xstV ?_
  show xT 43 3 0 [(0, .ref 123), (1, .int v1), (2, .ref 109)] [] m (none, z)
  refine e_aload_n rfl rfl rfl (xnm_no rfl) ?_
  refine e_iload_n rfl rfl (xnm_no rfl) ?_
  refine e_bipush (x := 8) rfl (by decide) (xnm_no rfl) ?_
  refine e_min rfl rfl rfl (xnm_no rfl) ?_
  refine e_putI rfl rfl rfl rfl (xnm_no rfl) ?_
  replace h := xlt_b h
  refine e_iconst (x := 0) rfl (by decide) (xnm_no rfl) ?_
  refine e_istore_n rfl rfl rfl ?_
  exact xlfV h
set_option maxRecDepth 4000 in
theorem bX5_solve_123_109_12_i (v3 : Int32) (m : xmm) {z : xmm} (h : (if (8 : Int32) ≤ v3 then bX5_solve_123_109_52 (0 : Int32) m else xgd (xinb 8 v3) (xlt (xwi m 124 (v3).toNatClampNeg (m.1 114 (v3).toNatClampNeg)) fun (m2 : xmm) => xlt (xwi m2 125 (v3).toNatClampNeg (0 : Int32)) fun (m3 : xmm) => xlt (xwi m3 126 (v3).toNatClampNeg (0 : Int32)) fun (m4 : xmm) => bX5_solve_123_109_12 (v3 + (1 : Int32)) m4)) = some z) : bX5_solve_123_109_12 v3 m = some z := by
  refine xstV ?_
  show xT 43 3 12 [(0, .ref 123), (2, .ref 109), (3, .int v3)] [] m (none, z)
  refine e_iload_n rfl rfl (xnm_no rfl) ?_
  refine e_bipush (x := 8) rfl (by decide) (xnm_no rfl) ?_
  refine e_icmp_ge (t := 50) rfl rfl (xnm_no rfl) (xnm_no rfl) h (fun h => ?_) (fun h => ?_)
  · refine e_iconst (x := 0) rfl (by decide) (xnm_no rfl) ?_
    refine e_istore_n rfl rfl rfl ?_
    exact xlfV h
  · refine e_aload_n rfl rfl rfl (xnm_no rfl) ?_
    refine e_getR (r := 124) rfl rfl rfl rfl rfl (xnm_no rfl) ?_
    refine e_iload_n rfl rfl (xnm_no rfl) ?_
    refine e_aload_n rfl rfl rfl (xnm_no rfl) ?_
    refine e_getR (r := 114) rfl rfl rfl rfl rfl (xnm_no rfl) ?_
    refine e_iload_n rfl rfl (xnm_no rfl) ?_
    obtain ⟨g1, h⟩ := xgd_some h
    refine e_iald rfl g1 (xnm_no rfl) ?_
    refine e_iast rfl g1 (xnm_no rfl) ?_
    replace h := xlt_b h
    refine e_aload_n rfl rfl rfl (xnm_no rfl) ?_
    refine e_getR (r := 125) rfl rfl rfl rfl rfl (xnm_no rfl) ?_
    refine e_iload_n rfl rfl (xnm_no rfl) ?_
    refine e_iconst (x := 0) rfl (by decide) (xnm_no rfl) ?_
    refine e_iast rfl g1 (xnm_no rfl) ?_
    replace h := xlt_b h
    refine e_aload_n rfl rfl rfl (xnm_no rfl) ?_
    refine e_getR (r := 126) rfl rfl rfl rfl rfl (xnm_no rfl) ?_
    refine e_iload_n rfl rfl (xnm_no rfl) ?_
    refine e_iconst (x := 0) rfl (by decide) (xnm_no rfl) ?_
    refine e_iast rfl g1 (xnm_no rfl) ?_
    replace h := xlt_b h
    refine e_iinc (y := 1) rfl rfl rfl (by decide) (xnm_no rfl) ?_
    refine e_goto (t := 12) rfl rfl rfl ?_
    exact xlfV h
set_option maxRecDepth 4000 in
theorem bX5_solve_123_109_52_i (v3 : Int32) (m : xmm) {z : xmm} (h : (if (64 : Int32) ≤ v3 then bX5_solve_123_109_95 (0 : Int32) m else (fX11_isArrow 124 v3 m).bind fun (w1 : Int32 × xmm) => if w1.1 = 0 then bX5_solve_123_109_52 (v3 + (1 : Int32)) w1.2 else xgd (xinb 8 (v3 - v3 / (8 : Int32) * (8 : Int32))) (xlt (xwi w1.2 125 ((v3 - v3 / (8 : Int32) * (8 : Int32))).toNatClampNeg ((w1.2.1 125 ((v3 - v3 / (8 : Int32) * (8 : Int32))).toNatClampNeg) ||| ((1 : Int32) <<< ((v3 / (8 : Int32)) &&& 31)))) fun (m4 : xmm) => bX5_solve_123_109_52 (v3 + (1 : Int32)) m4)) = some z) : bX5_solve_123_109_52 v3 m = some z := by
  refine xstV ?_
  show xT 43 3 52 [(0, .ref 123), (3, .int v3)] [] m (none, z)
  refine e_iload_n rfl rfl (xnm_no rfl) ?_
  refine e_bipush (x := 64) rfl (by decide) (xnm_no rfl) ?_
  refine e_icmp_ge (t := 93) rfl rfl (xnm_no rfl) (xnm_no rfl) h (fun h => ?_) (fun h => ?_)
  · refine e_iconst (x := 0) rfl (by decide) (xnm_no rfl) ?_
    refine e_istore_n rfl rfl rfl ?_
    exact xlfV h
  · refine e_aload_n rfl rfl rfl (xnm_no rfl) ?_
    refine e_getR (r := 124) rfl rfl rfl rfl rfl (xnm_no rfl) ?_
    refine e_iload_n rfl rfl (xnm_no rfl) ?_
    obtain ⟨w1, hw2, h⟩ := xbd_some h
    refine e_cIS (hc := hw2) (rest := []) rfl rfl rfl rfl rfl rfl rfl rfl (xnm_no rfl) ?_
    refine e_if_eq (t := 87) rfl rfl (xnm_no rfl) (xnm_no rfl) h (fun h => ?_) (fun h => ?_)
    · refine e_iinc (y := 1) rfl rfl rfl (by decide) (xnm_no rfl) ?_
      refine e_goto (t := 52) rfl rfl rfl ?_
      exact xlfV h
    · refine e_aload_n rfl rfl rfl (xnm_no rfl) ?_
      refine e_getR (r := 125) rfl rfl rfl rfl rfl (xnm_no rfl) ?_
      refine e_iload_n rfl rfl (xnm_no rfl) ?_
      refine e_bipush (x := 8) rfl (by decide) (xnm_no rfl) ?_
      refine e_irem rfl (by decide) (xnm_no rfl) ?_
      refine e_dup2 rfl rfl rfl (xnm_no rfl) ?_
      obtain ⟨g3, h⟩ := xgd_some h
      refine e_iald rfl g3 (xnm_no rfl) ?_
      refine e_iconst (x := 1) rfl (by decide) (xnm_no rfl) ?_
      refine e_iload_n rfl rfl (xnm_no rfl) ?_
      refine e_bipush (x := 8) rfl (by decide) (xnm_no rfl) ?_
      refine e_idiv rfl (by decide) (xnm_no rfl) ?_
      refine e_ishl rfl (xnm_no rfl) ?_
      refine e_ior rfl (xnm_no rfl) ?_
      refine e_iast rfl g3 (xnm_no rfl) ?_
      replace h := xlt_b h
      refine e_iinc (y := 1) rfl rfl rfl (by decide) (xnm_no rfl) ?_
      refine e_goto (t := 52) rfl rfl rfl ?_
      exact xlfV h
set_option maxRecDepth 4000 in
theorem bX5_solve_123_109_95_i (v3 : Int32) (m : xmm) {z : xmm} (h : (if (m.1 123 6) ≤ v3 then (fX5_countWaysOn_123 m).bind fun (w1 : xmm) => some w1 else (fX5_raiseLevels_123 m).bind fun (w3 : xmm) => bX5_solve_123_109_95 (v3 + (1 : Int32)) w3) = some z) : bX5_solve_123_109_95 v3 m = some z := by
  refine xstV ?_
  show xT 43 3 95 [(0, .ref 123), (3, .int v3)] [] m (none, z)
  refine e_iload_n rfl rfl (xnm_no rfl) ?_
  refine e_aload_n rfl rfl rfl (xnm_no rfl) ?_
  refine e_getI rfl rfl rfl rfl (xnm_no rfl) ?_
  refine e_icmp_ge (t := 113) rfl rfl (xnm_no rfl) (xnm_no rfl) h (fun h => ?_) (fun h => ?_)
  · refine e_aload_n rfl rfl rfl (xnm_no rfl) ?_
    obtain ⟨w1, hw2, h⟩ := xbd_some h
    refine e_cVV (hc := hw2) (rest := []) rfl rfl rfl rfl rfl rfl rfl rfl (xnm_no rfl) ?_
    cases h
    exact e_retV rfl rfl
  · refine e_aload_n rfl rfl rfl (xnm_no rfl) ?_
    obtain ⟨w3, hw4, h⟩ := xbd_some h
    refine e_cVV (hc := hw4) (rest := []) rfl rfl rfl rfl rfl rfl rfl rfl (xnm_no rfl) ?_
    refine e_iinc (y := 1) rfl rfl rfl (by decide) (xnm_no rfl) ?_
    refine e_goto (t := 95) rfl rfl rfl ?_
    exact xlfV h
set_option maxRecDepth 4000 in
theorem fX1_isOrdered_103_i (m : xmm) {z : Int32 × xmm} (h : (if (m.1 103 4) = 0 then some ((1 : Int32), m) else some ((0 : Int32), m)) = some z) : fX1_isOrdered_103 m = some z := by
  refine xstI ?_
  show xT 9 0 0 [(0, .ref 103)] [] m (some (.int z.1), z.2)
  refine e_aload_n rfl rfl rfl (xnm_no rfl) ?_
  refine e_getI rfl rfl rfl rfl (xnm_no rfl) ?_
  refine e_if_ne (t := 11) rfl rfl (xnm_no rfl) (xnm_no rfl) h (fun h => ?_) (fun h => ?_)
  · refine e_iconst (x := 0) rfl (by decide) (xnm_no rfl) ?_
    cases h
    exact e_retI rfl (by decide)
  · refine e_iconst (x := 1) rfl (by decide) (xnm_no rfl) ?_
    refine e_goto (t := 12) rfl rfl (xnm_no rfl) ?_
    cases h
    exact e_retI rfl (by decide)
set_option maxRecDepth 4000 in
theorem fX6_reach_117_i (v1 : Int32) (v2 : Int32) (m : xmm) {z : xmm} (h : (xgd (xinb 64 v1) (if (m.1 118 (v1).toNatClampNeg) = (-1 : Int32) then if (64 : Int32) ≤ (m.1 117 2) then some m else xlt (xwi m 118 (v1).toNatClampNeg v2) fun (m2 : xmm) => xgd (xinb 64 (m2.1 117 2)) (xlt (xwi m2 119 ((m2.1 117 2)).toNatClampNeg v1) fun (m4 : xmm) => xlt (xwi m4 117 2 ((m4.1 117 2) + (1 : Int32))) fun (m5 : xmm) => some m5) else some m)) = some z) : fX6_reach_117 v1 v2 m = some z := by
  refine xstV ?_
  show xT 68 0 0 [(0, .ref 117), (1, .int v1), (2, .int v2)] [] m (none, z)
  refine e_aload_n rfl rfl rfl (xnm_no rfl) ?_
  refine e_getR (r := 118) rfl rfl rfl rfl rfl (xnm_no rfl) ?_
  refine e_iload_n rfl rfl (xnm_no rfl) ?_
  obtain ⟨g1, h⟩ := xgd_some h
  refine e_iald rfl g1 (xnm_no rfl) ?_
  refine e_iconst (x := -1) rfl (by decide) (xnm_no rfl) ?_
  refine e_icmp_ne (t := 46) rfl rfl (xnm_no rfl) (xnm_no rfl) h (fun h => ?_) (fun h => ?_)
  · cases h
    exact e_retV rfl rfl
  · refine e_aload_n rfl rfl rfl (xnm_no rfl) ?_
    refine e_getI rfl rfl rfl rfl (xnm_no rfl) ?_
    refine e_bipush (x := 64) rfl (by decide) (xnm_no rfl) ?_
    refine e_icmp_ge (t := 46) rfl rfl (xnm_no rfl) (xnm_no rfl) h (fun h => ?_) (fun h => ?_)
    · cases h
      exact e_retV rfl rfl
    · refine e_aload_n rfl rfl rfl (xnm_no rfl) ?_
      refine e_getR (r := 118) rfl rfl rfl rfl rfl (xnm_no rfl) ?_
      refine e_iload_n rfl rfl (xnm_no rfl) ?_
      refine e_iload_n rfl rfl (xnm_no rfl) ?_
      refine e_iast rfl g1 (xnm_no rfl) ?_
      replace h := xlt_b h
      refine e_aload_n rfl rfl rfl (xnm_no rfl) ?_
      refine e_getR (r := 119) rfl rfl rfl rfl rfl (xnm_no rfl) ?_
      refine e_aload_n rfl rfl rfl (xnm_no rfl) ?_
      refine e_getI rfl rfl rfl rfl (xnm_no rfl) ?_
      refine e_iload_n rfl rfl (xnm_no rfl) ?_
      obtain ⟨g3, h⟩ := xgd_some h
      refine e_iast rfl g3 (xnm_no rfl) ?_
      replace h := xlt_b h
      refine e_aload_n rfl rfl rfl (xnm_no rfl) ?_
      refine e_dup rfl rfl (xnm_no rfl) ?_
      refine e_getI rfl rfl rfl rfl (xnm_no rfl) ?_
      refine e_iconst (x := 1) rfl (by decide) (xnm_no rfl) ?_
      refine e_iadd rfl (xnm_no rfl) ?_
      refine e_putI rfl rfl rfl rfl (xnm_no rfl) ?_
      replace h := xlt_b h
      cases h
      exact e_retV rfl rfl
set_option maxRecDepth 4000 in
theorem fX6_reachForced_117_i (v1 : Nat) (v2 : Int32) (m : xmm) {z : xmm} (h : (xgd (!(Nat.beq v1 1999)) (xgd (xia 1 v1 (v2 / (8 : Int32))) (xgd (xia 1 v1 (v2 - v2 / (8 : Int32) * (8 : Int32))) (xlt (((m.1 v1 ((v2 / (8 : Int32))).toNatClampNeg) &&& ((m.1 v1 ((v2 - v2 / (8 : Int32) * (8 : Int32))).toNatClampNeg) ^^^ (-1 : Int32))) &&& (((1 : Int32) <<< ((v2 - v2 / (8 : Int32) * (8 : Int32)) &&& 31)) ^^^ (-1 : Int32))) fun (x4 : Int32) => xlt (((m.1 v1 ((v2 - v2 / (8 : Int32) * (8 : Int32))).toNatClampNeg) &&& ((m.1 v1 ((v2 / (8 : Int32))).toNatClampNeg) ^^^ (-1 : Int32))) &&& (((1 : Int32) <<< ((v2 / (8 : Int32)) &&& 31)) ^^^ (-1 : Int32))) fun (x5 : Int32) => bX6_reachForced_117_51 v2 (v2 / (8 : Int32)) (v2 - v2 / (8 : Int32) * (8 : Int32)) x4 x5 (0 : Int32) m)))) = some z) : fX6_reachForced_117 v1 v2 m = some z := by
  refine xstV ?_
  show xT 67 1 0 [(0, .ref 117), (1, .ref v1), (2, .int v2)] [] m (none, z)
  refine e_iload_n rfl rfl (xnm_no rfl) ?_
  refine e_bipush (x := 8) rfl (by decide) (xnm_no rfl) ?_
  refine e_idiv rfl (by decide) (xnm_no rfl) ?_
  refine e_istore_n rfl rfl (xnm_no rfl) ?_
  refine e_iload_n rfl rfl (xnm_no rfl) ?_
  refine e_bipush (x := 8) rfl (by decide) (xnm_no rfl) ?_
  refine e_irem rfl (by decide) (xnm_no rfl) ?_
  refine e_istore rfl rfl (xnm_no rfl) ?_
  obtain ⟨g1, h⟩ := xgd_some h
  refine e_aload_n rfl rfl (xnb g1) (xnm_no rfl) ?_
  refine e_iload_n rfl rfl (xnm_no rfl) ?_
  obtain ⟨g2, h⟩ := xgd_some h
  refine e_iald rfl g2 (xnm_no rfl) ?_
  refine e_aload_n rfl rfl (xnb g1) (xnm_no rfl) ?_
  refine e_iload rfl rfl (xnm_no rfl) ?_
  obtain ⟨g3, h⟩ := xgd_some h
  refine e_iald rfl g3 (xnm_no rfl) ?_
  refine e_iconst (x := -1) rfl (by decide) (xnm_no rfl) ?_
  refine e_ixor rfl (xnm_no rfl) ?_
  refine e_iand rfl (xnm_no rfl) ?_
  refine e_iconst (x := 1) rfl (by decide) (xnm_no rfl) ?_
  refine e_iload rfl rfl (xnm_no rfl) ?_
  refine e_ishl rfl (xnm_no rfl) ?_
  refine e_iconst (x := -1) rfl (by decide) (xnm_no rfl) ?_
  refine e_ixor rfl (xnm_no rfl) ?_
  refine e_iand rfl (xnm_no rfl) ?_
  replace h := xlt_b h
  refine e_istore rfl rfl (xnm_no rfl) ?_
  refine e_aload_n rfl rfl (xnb g1) (xnm_no rfl) ?_
  refine e_iload rfl rfl (xnm_no rfl) ?_
  refine e_iald rfl g3 (xnm_no rfl) ?_
  refine e_aload_n rfl rfl (xnb g1) (xnm_no rfl) ?_
  refine e_iload_n rfl rfl (xnm_no rfl) ?_
  refine e_iald rfl g2 (xnm_no rfl) ?_
  refine e_iconst (x := -1) rfl (by decide) (xnm_no rfl) ?_
  refine e_ixor rfl (xnm_no rfl) ?_
  refine e_iand rfl (xnm_no rfl) ?_
  refine e_iconst (x := 1) rfl (by decide) (xnm_no rfl) ?_
  refine e_iload_n rfl rfl (xnm_no rfl) ?_
  refine e_ishl rfl (xnm_no rfl) ?_
  refine e_iconst (x := -1) rfl (by decide) (xnm_no rfl) ?_
  refine e_ixor rfl (xnm_no rfl) ?_
  refine e_iand rfl (xnm_no rfl) ?_
  replace h := xlt_b h
  refine e_istore rfl rfl (xnm_no rfl) ?_
  refine e_iconst (x := 0) rfl (by decide) (xnm_no rfl) ?_
  refine e_istore rfl rfl rfl ?_
  exact xlfV h
set_option maxRecDepth 4000 in
theorem bX6_reachForced_117_51_i (v2 : Int32) (v3 : Int32) (v4 : Int32) (v5 : Int32) (v6 : Int32) (v7 : Int32) (m : xmm) {z : xmm} (h : (if (8 : Int32) ≤ v7 then some m else (fX11_contains v5 v7 m).bind fun (w1 : Int32 × xmm) => if w1.1 = 0 then bX6_reachForced_117_86 v2 v3 v4 v5 v6 v7 w1.2 else (fX11_arrowFrom v3 v7 w1.2).bind fun (w3 : Int32 × xmm) => xgd (xinb 64 v2) ((fX6_reach_117 w3.1 ((w3.2.1 118 (v2).toNatClampNeg) + (1 : Int32)) w3.2).bind fun (w6 : xmm) => bX6_reachForced_117_86 v2 v3 v4 v5 v6 v7 w6)) = some z) : bX6_reachForced_117_51 v2 v3 v4 v5 v6 v7 m = some z := by
  refine xstV ?_
  show xT 67 1 51 [(0, .ref 117), (2, .int v2), (3, .int v3), (4, .int v4), (5, .int v5), (6, .int v6), (7, .int v7)] [] m (none, z)
  refine e_iload rfl rfl (xnm_no rfl) ?_
  refine e_bipush (x := 8) rfl (by decide) (xnm_no rfl) ?_
  refine e_icmp_ge (t := 121) rfl rfl (xnm_no rfl) (xnm_no rfl) h (fun h => ?_) (fun h => ?_)
  · cases h
    exact e_retV rfl rfl
  · refine e_iload rfl rfl (xnm_no rfl) ?_
    refine e_iload rfl rfl (xnm_no rfl) ?_
    obtain ⟨w1, hw2, h⟩ := xbd_some h
    refine e_cIS (hc := hw2) (rest := []) rfl rfl rfl rfl rfl rfl rfl rfl (xnm_no rfl) ?_
    refine e_if_eq (t := 86) rfl rfl rfl (xnm_no rfl) h (fun h => ?_) (fun h => ?_)
    · exact xlfV h
    · refine e_aload_n rfl rfl rfl (xnm_no rfl) ?_
      refine e_iload_n rfl rfl (xnm_no rfl) ?_
      refine e_iload rfl rfl (xnm_no rfl) ?_
      obtain ⟨w3, hw4, h⟩ := xbd_some h
      refine e_cIS (hc := hw4) (rest := [.ref 117]) rfl rfl rfl rfl rfl rfl rfl rfl (xnm_no rfl) ?_
      refine e_aload_n rfl rfl rfl (xnm_no rfl) ?_
      refine e_getR (r := 118) rfl rfl rfl rfl rfl (xnm_no rfl) ?_
      refine e_iload_n rfl rfl (xnm_no rfl) ?_
      obtain ⟨g5, h⟩ := xgd_some h
      refine e_iald rfl g5 (xnm_no rfl) ?_
      refine e_iconst (x := 1) rfl (by decide) (xnm_no rfl) ?_
      refine e_iadd rfl (xnm_no rfl) ?_
      obtain ⟨w6, hw7, h⟩ := xbd_some h
      refine e_cVV (hc := hw7) (rest := []) rfl rfl rfl rfl rfl rfl rfl rfl rfl ?_
      exact xlfV h
set_option maxRecDepth 4000 in
theorem bX6_reachForced_117_86_i (v2 : Int32) (v3 : Int32) (v4 : Int32) (v5 : Int32) (v6 : Int32) (v7 : Int32) (m : xmm) {z : xmm} (h : ((fX11_contains v6 v7 m).bind fun (w1 : Int32 × xmm) => if w1.1 = 0 then bX6_reachForced_117_51 v2 v3 v4 v5 v6 (v7 + (1 : Int32)) w1.2 else (fX11_arrowFrom v7 v4 w1.2).bind fun (w3 : Int32 × xmm) => xgd (xinb 64 v2) ((fX6_reach_117 w3.1 ((w3.2.1 118 (v2).toNatClampNeg) + (1 : Int32)) w3.2).bind fun (w6 : xmm) => bX6_reachForced_117_51 v2 v3 v4 v5 v6 (v7 + (1 : Int32)) w6)) = some z) : bX6_reachForced_117_86 v2 v3 v4 v5 v6 v7 m = some z := by
  refine xstV ?_
  show xT 67 1 86 [(0, .ref 117), (2, .int v2), (3, .int v3), (4, .int v4), (5, .int v5), (6, .int v6), (7, .int v7)] [] m (none, z)
  refine e_iload rfl rfl (xnm_no rfl) ?_
  refine e_iload rfl rfl (xnm_no rfl) ?_
  obtain ⟨w1, hw2, h⟩ := xbd_some h
  refine e_cIS (hc := hw2) (rest := []) rfl rfl rfl rfl rfl rfl rfl rfl (xnm_no rfl) ?_
  refine e_if_eq (t := 115) rfl rfl (xnm_no rfl) (xnm_no rfl) h (fun h => ?_) (fun h => ?_)
  · refine e_iinc (y := 1) rfl rfl rfl (by decide) (xnm_no rfl) ?_
    refine e_goto (t := 51) rfl rfl rfl ?_
    exact xlfV h
  · refine e_aload_n rfl rfl rfl (xnm_no rfl) ?_
    refine e_iload rfl rfl (xnm_no rfl) ?_
    refine e_iload rfl rfl (xnm_no rfl) ?_
    obtain ⟨w3, hw4, h⟩ := xbd_some h
    refine e_cIS (hc := hw4) (rest := [.ref 117]) rfl rfl rfl rfl rfl rfl rfl rfl (xnm_no rfl) ?_
    refine e_aload_n rfl rfl rfl (xnm_no rfl) ?_
    refine e_getR (r := 118) rfl rfl rfl rfl rfl (xnm_no rfl) ?_
    refine e_iload_n rfl rfl (xnm_no rfl) ?_
    obtain ⟨g5, h⟩ := xgd_some h
    refine e_iald rfl g5 (xnm_no rfl) ?_
    refine e_iconst (x := 1) rfl (by decide) (xnm_no rfl) ?_
    refine e_iadd rfl (xnm_no rfl) ?_
    obtain ⟨w6, hw7, h⟩ := xbd_some h
    refine e_cVV (hc := hw7) (rest := []) rfl rfl rfl rfl rfl rfl rfl rfl (xnm_no rfl) ?_
    refine e_iinc (y := 1) rfl rfl rfl (by decide) (xnm_no rfl) ?_
    refine e_goto (t := 51) rfl rfl rfl ?_
    exact xlfV h
set_option maxRecDepth 4000 in
theorem fX6_spread_117_i (v1 : Nat) (v2 : Int32) (m : xmm) {z : xmm} (h : (bX6_spread_117_2 v1 v2 (0 : Int32) m) = some z) : fX6_spread_117 v1 v2 m = some z := by
  refine xstV ?_
  show xT 66 2 0 [(0, .ref 117), (1, .ref v1), (2, .int v2)] [] m (none, z)
  refine e_iconst (x := 0) rfl (by decide) (xnm_no rfl) ?_
  refine e_istore_n rfl rfl rfl ?_
  exact xlfV h
set_option maxRecDepth 4000 in
theorem bX6_spread_117_2_i (v1 : Nat) (v2 : Int32) (v3 : Int32) (m : xmm) {z : xmm} (h : (if (64 : Int32) ≤ v3 then xlt (xwi m 117 2 (0 : Int32)) fun (m1 : xmm) => (fX6_reach_117 v2 (0 : Int32) m1).bind fun (w2 : xmm) => bX6_spread_117_34 v1 (0 : Int32) w2 else xgd (xinb 64 v3) (xlt (xwi m 118 (v3).toNatClampNeg (-1 : Int32)) fun (m5 : xmm) => bX6_spread_117_2 v1 v2 (v3 + (1 : Int32)) m5)) = some z) : bX6_spread_117_2 v1 v2 v3 m = some z := by
  refine xstV ?_
  show xT 66 2 2 [(0, .ref 117), (1, .ref v1), (2, .int v2), (3, .int v3)] [] m (none, z)
  refine e_iload_n rfl rfl (xnm_no rfl) ?_
  refine e_bipush (x := 64) rfl (by decide) (xnm_no rfl) ?_
  refine e_icmp_ge (t := 21) rfl rfl (xnm_no rfl) (xnm_no rfl) h (fun h => ?_) (fun h => ?_)
  · refine e_aload_n rfl rfl rfl (xnm_no rfl) ?_
    refine e_iconst (x := 0) rfl (by decide) (xnm_no rfl) ?_
    refine e_putI rfl rfl rfl rfl (xnm_no rfl) ?_
    replace h := xlt_b h
    refine e_aload_n rfl rfl rfl (xnm_no rfl) ?_
    refine e_iload_n rfl rfl (xnm_no rfl) ?_
    refine e_iconst (x := 0) rfl (by decide) (xnm_no rfl) ?_
    obtain ⟨w2, hw3, h⟩ := xbd_some h
    refine e_cVV (hc := hw3) (rest := []) rfl rfl rfl rfl rfl rfl rfl rfl (xnm_no rfl) ?_
    refine e_iconst (x := 0) rfl (by decide) (xnm_no rfl) ?_
    refine e_istore_n rfl rfl rfl ?_
    exact xlfV h
  · refine e_aload_n rfl rfl rfl (xnm_no rfl) ?_
    refine e_getR (r := 118) rfl rfl rfl rfl rfl (xnm_no rfl) ?_
    refine e_iload_n rfl rfl (xnm_no rfl) ?_
    refine e_iconst (x := -1) rfl (by decide) (xnm_no rfl) ?_
    obtain ⟨g4, h⟩ := xgd_some h
    refine e_iast rfl g4 (xnm_no rfl) ?_
    replace h := xlt_b h
    refine e_iinc (y := 1) rfl rfl rfl (by decide) (xnm_no rfl) ?_
    refine e_goto (t := 2) rfl rfl rfl ?_
    exact xlfV h
set_option maxRecDepth 4000 in
theorem bX6_spread_117_34_i (v1 : Nat) (v3 : Int32) (m : xmm) {z : xmm} (h : (if (m.1 117 2) ≤ v3 then some m else if (64 : Int32) ≤ v3 then some m else xgd (!(Nat.beq v1 1999)) (xgd (xinb 64 v3) ((fX6_reachForced_117 v1 (m.1 119 (v3).toNatClampNeg) m).bind fun (w3 : xmm) => bX6_spread_117_34 v1 (v3 + (1 : Int32)) w3))) = some z) : bX6_spread_117_34 v1 v3 m = some z := by
  refine xstV ?_
  show xT 66 2 34 [(0, .ref 117), (1, .ref v1), (3, .int v3)] [] m (none, z)
  refine e_iload_n rfl rfl (xnm_no rfl) ?_
  refine e_aload_n rfl rfl rfl (xnm_no rfl) ?_
  refine e_getI rfl rfl rfl rfl (xnm_no rfl) ?_
  refine e_icmp_ge (t := 65) rfl rfl (xnm_no rfl) (xnm_no rfl) h (fun h => ?_) (fun h => ?_)
  · cases h
    exact e_retV rfl rfl
  · refine e_iload_n rfl rfl (xnm_no rfl) ?_
    refine e_bipush (x := 64) rfl (by decide) (xnm_no rfl) ?_
    refine e_icmp_ge (t := 65) rfl rfl (xnm_no rfl) (xnm_no rfl) h (fun h => ?_) (fun h => ?_)
    · cases h
      exact e_retV rfl rfl
    · refine e_aload_n rfl rfl rfl (xnm_no rfl) ?_
      obtain ⟨g1, h⟩ := xgd_some h
      refine e_aload_n rfl rfl (xnb g1) (xnm_no rfl) ?_
      refine e_aload_n rfl rfl rfl (xnm_no rfl) ?_
      refine e_getR (r := 119) rfl rfl rfl rfl rfl (xnm_no rfl) ?_
      refine e_iload_n rfl rfl (xnm_no rfl) ?_
      obtain ⟨g2, h⟩ := xgd_some h
      refine e_iald rfl g2 (xnm_no rfl) ?_
      obtain ⟨w3, hw4, h⟩ := xbd_some h
      refine e_cVV (hc := hw4) (rest := []) rfl rfl rfl rfl rfl rfl rfl rfl (xnm_no rfl) ?_
      refine e_iinc (y := 1) rfl rfl rfl (by decide) (xnm_no rfl) ?_
      refine e_goto (t := 34) rfl rfl rfl ?_
      exact xlfV h
set_option maxRecDepth 4000 in
theorem fX0_takeClass_116_i (v1 : Int32) (m : xmm) {z : xmm} (h : ((fX6_spread_117 120 v1 m).bind fun (w1 : xmm) => bX0_takeClass_116_14 (0 : Int32) w1) = some z) : fX0_takeClass_116 v1 m = some z := by
  refine xstV ?_
  show xT 2 3 0 [(0, .ref 116), (1, .int v1)] [] m (none, z)
  refine e_aload_n rfl rfl rfl (xnm_no rfl) ?_
  refine e_getR (r := 117) rfl rfl rfl rfl rfl (xnm_no rfl) ?_
  refine e_aload_n rfl rfl rfl (xnm_no rfl) ?_
  refine e_getR (r := 120) rfl rfl rfl rfl rfl (xnm_no rfl) ?_
  refine e_iload_n rfl rfl (xnm_no rfl) ?_
  obtain ⟨w1, hw2, h⟩ := xbd_some h
  refine e_cVV (hc := hw2) (rest := []) rfl rfl rfl rfl rfl rfl rfl rfl (xnm_no rfl) ?_
  refine e_iconst (x := 0) rfl (by decide) (xnm_no rfl) ?_
  refine e_istore_n rfl rfl rfl ?_
  exact xlfV h
set_option maxRecDepth 4000 in
theorem bX0_takeClass_116_14_i (v2 : Int32) (m : xmm) {z : xmm} (h : (if (m.1 117 2) ≤ v2 then xlt (xwi m 116 4 ((m.1 116 4) + (1 : Int32))) fun (m1 : xmm) => some m1 else xgd (xinb 64 v2) (xlt ((m.1 119 (v2).toNatClampNeg) - (m.1 119 (v2).toNatClampNeg) / (8 : Int32) * (8 : Int32)) fun (x3 : Int32) => xgd (xinb 8 ((m.1 119 (v2).toNatClampNeg) / (8 : Int32))) (xlt (xwi m 121 (((m.1 119 (v2).toNatClampNeg) / (8 : Int32))).toNatClampNeg ((m.1 121 (((m.1 119 (v2).toNatClampNeg) / (8 : Int32))).toNatClampNeg) ||| ((1 : Int32) <<< (x3 &&& 31)))) fun (m5 : xmm) => xgd (xinb 64 (m.1 119 (v2).toNatClampNeg)) (xlt (xwi m5 122 ((m.1 119 (v2).toNatClampNeg)).toNatClampNeg (m5.1 116 4)) fun (m7 : xmm) => (fX11_against (m.1 119 (v2).toNatClampNeg) m7).bind fun (w8 : Int32 × xmm) => xgd (xinb 64 w8.1) (xlt (xwi w8.2 122 (w8.1).toNatClampNeg (w8.2.1 116 4)) fun (m11 : xmm) => xlt (xwi m11 120 (((m.1 119 (v2).toNatClampNeg) / (8 : Int32))).toNatClampNeg ((m11.1 120 (((m.1 119 (v2).toNatClampNeg) / (8 : Int32))).toNatClampNeg) &&& (((1 : Int32) <<< (x3 &&& 31)) ^^^ (-1 : Int32)))) fun (m12 : xmm) => xgd (xinb 8 x3) (xlt (xwi m12 120 (x3).toNatClampNeg ((m12.1 120 (x3).toNatClampNeg) &&& (((1 : Int32) <<< (((m.1 119 (v2).toNatClampNeg) / (8 : Int32)) &&& 31)) ^^^ (-1 : Int32)))) fun (m14 : xmm) => bX0_takeClass_116_14 (v2 + (1 : Int32)) m14)))))) = some z) : bX0_takeClass_116_14 v2 m = some z := by
  refine xstV ?_
  show xT 2 3 14 [(0, .ref 116), (2, .int v2)] [] m (none, z)
  refine e_iload_n rfl rfl (xnm_no rfl) ?_
  refine e_aload_n rfl rfl rfl (xnm_no rfl) ?_
  refine e_getR (r := 117) rfl rfl rfl rfl rfl (xnm_no rfl) ?_
  refine e_getI rfl rfl rfl rfl (xnm_no rfl) ?_
  refine e_icmp_ge (t := 122) rfl rfl (xnm_no rfl) (xnm_no rfl) h (fun h => ?_) (fun h => ?_)
  · refine e_aload_n rfl rfl rfl (xnm_no rfl) ?_
    refine e_dup rfl rfl (xnm_no rfl) ?_
    refine e_getI rfl rfl rfl rfl (xnm_no rfl) ?_
    refine e_iconst (x := 1) rfl (by decide) (xnm_no rfl) ?_
    refine e_iadd rfl (xnm_no rfl) ?_
    refine e_putI rfl rfl rfl rfl (xnm_no rfl) ?_
    replace h := xlt_b h
    cases h
    exact e_retV rfl rfl
  · refine e_aload_n rfl rfl rfl (xnm_no rfl) ?_
    refine e_getR (r := 117) rfl rfl rfl rfl rfl (xnm_no rfl) ?_
    refine e_getR (r := 119) rfl rfl rfl rfl rfl (xnm_no rfl) ?_
    refine e_iload_n rfl rfl (xnm_no rfl) ?_
    obtain ⟨g2, h⟩ := xgd_some h
    refine e_iald rfl g2 (xnm_no rfl) ?_
    refine e_istore_n rfl rfl (xnm_no rfl) ?_
    refine e_iload_n rfl rfl (xnm_no rfl) ?_
    refine e_bipush (x := 8) rfl (by decide) (xnm_no rfl) ?_
    refine e_idiv rfl (by decide) (xnm_no rfl) ?_
    refine e_istore rfl rfl (xnm_no rfl) ?_
    refine e_iload_n rfl rfl (xnm_no rfl) ?_
    refine e_bipush (x := 8) rfl (by decide) (xnm_no rfl) ?_
    refine e_irem rfl (by decide) (xnm_no rfl) ?_
    replace h := xlt_b h
    refine e_istore rfl rfl (xnm_no rfl) ?_
    refine e_aload_n rfl rfl rfl (xnm_no rfl) ?_
    refine e_getR (r := 121) rfl rfl rfl rfl rfl (xnm_no rfl) ?_
    refine e_iload rfl rfl (xnm_no rfl) ?_
    refine e_dup2 rfl rfl rfl (xnm_no rfl) ?_
    obtain ⟨g4, h⟩ := xgd_some h
    refine e_iald rfl g4 (xnm_no rfl) ?_
    refine e_iconst (x := 1) rfl (by decide) (xnm_no rfl) ?_
    refine e_iload rfl rfl (xnm_no rfl) ?_
    refine e_ishl rfl (xnm_no rfl) ?_
    refine e_ior rfl (xnm_no rfl) ?_
    refine e_iast rfl g4 (xnm_no rfl) ?_
    replace h := xlt_b h
    refine e_aload_n rfl rfl rfl (xnm_no rfl) ?_
    refine e_getR (r := 122) rfl rfl rfl rfl rfl (xnm_no rfl) ?_
    refine e_iload_n rfl rfl (xnm_no rfl) ?_
    refine e_aload_n rfl rfl rfl (xnm_no rfl) ?_
    refine e_getI rfl rfl rfl rfl (xnm_no rfl) ?_
    obtain ⟨g6, h⟩ := xgd_some h
    refine e_iast rfl g6 (xnm_no rfl) ?_
    replace h := xlt_b h
    refine e_aload_n rfl rfl rfl (xnm_no rfl) ?_
    refine e_getR (r := 122) rfl rfl rfl rfl rfl (xnm_no rfl) ?_
    refine e_iload_n rfl rfl (xnm_no rfl) ?_
    obtain ⟨w8, hw9, h⟩ := xbd_some h
    refine e_cIS (hc := hw9) (rest := [.ref 122]) rfl rfl rfl rfl rfl rfl rfl rfl (xnm_no rfl) ?_
    refine e_aload_n rfl rfl rfl (xnm_no rfl) ?_
    refine e_getI rfl rfl rfl rfl (xnm_no rfl) ?_
    obtain ⟨g10, h⟩ := xgd_some h
    refine e_iast rfl g10 (xnm_no rfl) ?_
    replace h := xlt_b h
    refine e_aload_n rfl rfl rfl (xnm_no rfl) ?_
    refine e_getR (r := 120) rfl rfl rfl rfl rfl (xnm_no rfl) ?_
    refine e_iload rfl rfl (xnm_no rfl) ?_
    refine e_dup2 rfl rfl rfl (xnm_no rfl) ?_
    refine e_iald rfl g4 (xnm_no rfl) ?_
    refine e_iconst (x := 1) rfl (by decide) (xnm_no rfl) ?_
    refine e_iload rfl rfl (xnm_no rfl) ?_
    refine e_ishl rfl (xnm_no rfl) ?_
    refine e_iconst (x := -1) rfl (by decide) (xnm_no rfl) ?_
    refine e_ixor rfl (xnm_no rfl) ?_
    refine e_iand rfl (xnm_no rfl) ?_
    refine e_iast rfl g4 (xnm_no rfl) ?_
    replace h := xlt_b h
    refine e_aload_n rfl rfl rfl (xnm_no rfl) ?_
    refine e_getR (r := 120) rfl rfl rfl rfl rfl (xnm_no rfl) ?_
    refine e_iload rfl rfl (xnm_no rfl) ?_
    refine e_dup2 rfl rfl rfl (xnm_no rfl) ?_
    obtain ⟨g13, h⟩ := xgd_some h
    refine e_iald rfl g13 (xnm_no rfl) ?_
    refine e_iconst (x := 1) rfl (by decide) (xnm_no rfl) ?_
    refine e_iload rfl rfl (xnm_no rfl) ?_
    refine e_ishl rfl (xnm_no rfl) ?_
    refine e_iconst (x := -1) rfl (by decide) (xnm_no rfl) ?_
    refine e_ixor rfl (xnm_no rfl) ?_
    refine e_iand rfl (xnm_no rfl) ?_
    refine e_iast rfl g13 (xnm_no rfl) ?_
    replace h := xlt_b h
    refine e_iinc (y := 1) rfl rfl rfl (by decide) (xnm_no rfl) ?_
    refine e_goto (t := 14) rfl rfl rfl ?_
    exact xlfV h
set_option maxRecDepth 4000 in
theorem fX0_solve_116_i (v1 : Nat) (v2 : Int32) (m : xmm) {z : xmm} (h : (bX0_solve_116_2 v1 v2 (0 : Int32) m) = some z) : fX0_solve_116 v1 v2 m = some z := by
  refine xstV ?_
  show xT 1 4 0 [(0, .ref 116), (1, .ref v1), (2, .int v2)] [] m (none, z)
  refine e_iconst (x := 0) rfl (by decide) (xnm_no rfl) ?_
  refine e_istore_n rfl rfl rfl ?_
  exact xlfV h
set_option maxRecDepth 4000 in
theorem bX0_solve_116_2_i (v1 : Nat) (v2 : Int32) (v3 : Int32) (m : xmm) {z : xmm} (h : (if (8 : Int32) ≤ v3 then xlt (xwi m 116 4 (0 : Int32)) fun (m1 : xmm) => bX0_solve_116_37 v2 (0 : Int32) m1 else xgd (!(Nat.beq v1 1999)) (xgd (xia 1 v1 v3) (xgd (xinb 8 v3) (xlt (xwi m 120 (v3).toNatClampNeg (m.1 v1 (v3).toNatClampNeg)) fun (m5 : xmm) => xlt (xwi m5 121 (v3).toNatClampNeg (0 : Int32)) fun (m6 : xmm) => bX0_solve_116_2 v1 v2 (v3 + (1 : Int32)) m6)))) = some z) : bX0_solve_116_2 v1 v2 v3 m = some z := by
  refine xstV ?_
  show xT 1 4 2 [(0, .ref 116), (1, .ref v1), (2, .int v2), (3, .int v3)] [] m (none, z)
  refine e_iload_n rfl rfl (xnm_no rfl) ?_
  refine e_bipush (x := 8) rfl (by decide) (xnm_no rfl) ?_
  refine e_icmp_ge (t := 30) rfl rfl (xnm_no rfl) (xnm_no rfl) h (fun h => ?_) (fun h => ?_)
  · refine e_aload_n rfl rfl rfl (xnm_no rfl) ?_
    refine e_iconst (x := 0) rfl (by decide) (xnm_no rfl) ?_
    refine e_putI rfl rfl rfl rfl (xnm_no rfl) ?_
    replace h := xlt_b h
    refine e_iconst (x := 0) rfl (by decide) (xnm_no rfl) ?_
    refine e_istore_n rfl rfl rfl ?_
    exact xlfV h
  · refine e_aload_n rfl rfl rfl (xnm_no rfl) ?_
    refine e_getR (r := 120) rfl rfl rfl rfl rfl (xnm_no rfl) ?_
    refine e_iload_n rfl rfl (xnm_no rfl) ?_
    obtain ⟨g2, h⟩ := xgd_some h
    refine e_aload_n rfl rfl (xnb g2) (xnm_no rfl) ?_
    refine e_iload_n rfl rfl (xnm_no rfl) ?_
    obtain ⟨g3, h⟩ := xgd_some h
    refine e_iald rfl g3 (xnm_no rfl) ?_
    obtain ⟨g4, h⟩ := xgd_some h
    refine e_iast rfl g4 (xnm_no rfl) ?_
    replace h := xlt_b h
    refine e_aload_n rfl rfl rfl (xnm_no rfl) ?_
    refine e_getR (r := 121) rfl rfl rfl rfl rfl (xnm_no rfl) ?_
    refine e_iload_n rfl rfl (xnm_no rfl) ?_
    refine e_iconst (x := 0) rfl (by decide) (xnm_no rfl) ?_
    refine e_iast rfl g4 (xnm_no rfl) ?_
    replace h := xlt_b h
    refine e_iinc (y := 1) rfl rfl rfl (by decide) (xnm_no rfl) ?_
    refine e_goto (t := 2) rfl rfl rfl ?_
    exact xlfV h
set_option maxRecDepth 4000 in
theorem bX0_solve_116_37_i (v2 : Int32) (v3 : Int32) (m : xmm) {z : xmm} (h : (if (64 : Int32) ≤ v3 then some m else (fX11_isArrow 120 v3 m).bind fun (w1 : Int32 × xmm) => if w1.1 = 0 then bX0_solve_116_37 v2 (v3 + (1 : Int32)) w1.2 else if (w1.2.1 116 4) = 0 then if v2 = 0 then bX0_solve_116_70 v2 v3 (0 : Int32) w1.2 else bX0_solve_116_70 v2 v3 (1 : Int32) w1.2 else bX0_solve_116_70 v2 v3 (0 : Int32) w1.2) = some z) : bX0_solve_116_37 v2 v3 m = some z := by
  refine xstV ?_
  show xT 1 4 37 [(0, .ref 116), (2, .int v2), (3, .int v3)] [] m (none, z)
  refine e_iload_n rfl rfl (xnm_no rfl) ?_
  refine e_bipush (x := 64) rfl (by decide) (xnm_no rfl) ?_
  refine e_icmp_ge (t := 95) rfl rfl (xnm_no rfl) (xnm_no rfl) h (fun h => ?_) (fun h => ?_)
  · cases h
    exact e_retV rfl rfl
  · refine e_aload_n rfl rfl rfl (xnm_no rfl) ?_
    refine e_getR (r := 120) rfl rfl rfl rfl rfl (xnm_no rfl) ?_
    refine e_iload_n rfl rfl (xnm_no rfl) ?_
    obtain ⟨w1, hw2, h⟩ := xbd_some h
    refine e_cIS (hc := hw2) (rest := []) rfl rfl rfl rfl rfl rfl rfl rfl (xnm_no rfl) ?_
    refine e_if_eq (t := 89) rfl rfl (xnm_no rfl) (xnm_no rfl) h (fun h => ?_) (fun h => ?_)
    · refine e_iinc (y := 1) rfl rfl rfl (by decide) (xnm_no rfl) ?_
      refine e_goto (t := 37) rfl rfl rfl ?_
      exact xlfV h
    · refine e_aload_n rfl rfl rfl (xnm_no rfl) ?_
      refine e_getI rfl rfl rfl rfl (xnm_no rfl) ?_
      refine e_if_ne (t := 69) rfl rfl (xnm_no rfl) (xnm_no rfl) h (fun h => ?_) (fun h => ?_)
      · refine e_iconst (x := 0) rfl (by decide) rfl ?_
        exact xlfV h
      · refine e_iload_n rfl rfl (xnm_no rfl) ?_
        refine e_if_eq (t := 69) rfl rfl (xnm_no rfl) (xnm_no rfl) h (fun h => ?_) (fun h => ?_)
        · refine e_iconst (x := 0) rfl (by decide) rfl ?_
          exact xlfV h
        · refine e_iconst (x := 1) rfl (by decide) (xnm_no rfl) ?_
          refine e_goto (t := 70) rfl rfl rfl ?_
          exact xlfV h
set_option maxRecDepth 4000 in
theorem bX0_solve_116_70_i (v2 : Int32) (v3 : Int32) (s0 : Int32) (m : xmm) {z : xmm} (h : (if s0 = 0 then (fX0_takeClass_116 v3 m).bind fun (w1 : xmm) => bX0_solve_116_37 v2 (v3 + (1 : Int32)) w1 else (fX11_against v3 m).bind fun (w3 : Int32 × xmm) => (fX0_takeClass_116 w3.1 w3.2).bind fun (w5 : xmm) => bX0_solve_116_37 v2 (v3 + (1 : Int32)) w5) = some z) : bX0_solve_116_70 v2 v3 s0 m = some z := by
  refine xstV ?_
  show xT 1 4 70 [(0, .ref 116), (2, .int v2), (3, .int v3)] [.int s0] m (none, z)
  refine e_istore rfl rfl (xnm_no rfl) ?_
  refine e_aload_n rfl rfl rfl (xnm_no rfl) ?_
  refine e_iload rfl rfl (xnm_no rfl) ?_
  refine e_if_eq (t := 85) rfl rfl (xnm_no rfl) (xnm_no rfl) h (fun h => ?_) (fun h => ?_)
  · refine e_iload_n rfl rfl (xnm_no rfl) ?_
    obtain ⟨w1, hw2, h⟩ := xbd_some h
    refine e_cVV (hc := hw2) (rest := []) rfl rfl rfl rfl rfl rfl rfl rfl (xnm_no rfl) ?_
    refine e_iinc (y := 1) rfl rfl rfl (by decide) (xnm_no rfl) ?_
    refine e_goto (t := 37) rfl rfl rfl ?_
    exact xlfV h
  · refine e_iload_n rfl rfl (xnm_no rfl) ?_
    obtain ⟨w3, hw4, h⟩ := xbd_some h
    refine e_cIS (hc := hw4) (rest := [.ref 116]) rfl rfl rfl rfl rfl rfl rfl rfl (xnm_no rfl) ?_
    refine e_goto (t := 86) rfl rfl (xnm_no rfl) ?_
    obtain ⟨w5, hw6, h⟩ := xbd_some h
    refine e_cVV (hc := hw6) (rest := []) rfl rfl rfl rfl rfl rfl rfl rfl (xnm_no rfl) ?_
    refine e_iinc (y := 1) rfl rfl rfl (by decide) (xnm_no rfl) ?_
    refine e_goto (t := 37) rfl rfl rfl ?_
    exact xlfV h
set_option maxRecDepth 4000 in
theorem fX11_study_0_i (m : xmm) {z : xmm} (h : (if (m.1 0 6) = 0 then (fX3_copyFrom 12 10 m).bind fun (w1 : xmm) => (fX3_turnOver 12 w1).bind fun (w3 : xmm) => (fX1_solve_97 11 w3).bind fun (w5 : xmm) => (fX1_solve_103 13 w5).bind fun (w7 : xmm) => (fX1_isOrdered_97 w7).bind fun (w9 : Int32 × xmm) => if w9.1 = 0 then bX11_study_0_103 w9.2 else (fX0_solve_109 11 (w9.2.1 10 1) w9.2).bind fun (w11 : xmm) => (fX5_solve_123_109 (w11.1 10 0) w11).bind fun (w13 : xmm) => bX11_study_0_103 w13 else some m) = some z) : fX11_study_0 m = some z := by
  refine xstV ?_
  show xT 152 5 0 [(0, .ref 0)] [] m (none, z)
  refine e_aload_n rfl rfl rfl (xnm_no rfl) ?_
  refine e_getI rfl rfl rfl rfl (xnm_no rfl) ?_
  refine e_if_eq (t := 8) rfl rfl (xnm_no rfl) (xnm_no rfl) h (fun h => ?_) (fun h => ?_)
  · refine e_aload_n rfl rfl rfl (xnm_no rfl) ?_
    refine e_getR (r := 12) rfl rfl rfl rfl rfl (xnm_no rfl) ?_
    refine e_aload_n rfl rfl rfl (xnm_no rfl) ?_
    refine e_getR (r := 10) rfl rfl rfl rfl rfl (xnm_no rfl) ?_
    obtain ⟨w1, hw2, h⟩ := xbd_some h
    refine e_cVV (hc := hw2) (rest := []) rfl rfl rfl rfl rfl rfl rfl rfl (xnm_no rfl) ?_
    refine e_aload_n rfl rfl rfl (xnm_no rfl) ?_
    refine e_getR (r := 12) rfl rfl rfl rfl rfl (xnm_no rfl) ?_
    obtain ⟨w3, hw4, h⟩ := xbd_some h
    refine e_cVV (hc := hw4) (rest := []) rfl rfl rfl rfl rfl rfl rfl rfl (xnm_no rfl) ?_
    refine e_aload_n rfl rfl rfl (xnm_no rfl) ?_
    refine e_getR (r := 97) rfl rfl rfl rfl rfl (xnm_no rfl) ?_
    refine e_aload_n rfl rfl rfl (xnm_no rfl) ?_
    refine e_getR (r := 10) rfl rfl rfl rfl rfl (xnm_no rfl) ?_
    refine e_getR (r := 11) rfl rfl rfl rfl rfl (xnm_no rfl) ?_
    obtain ⟨w5, hw6, h⟩ := xbd_some h
    refine e_cVV (hc := hw6) (rest := []) rfl rfl rfl rfl rfl rfl rfl rfl (xnm_no rfl) ?_
    refine e_aload_n rfl rfl rfl (xnm_no rfl) ?_
    refine e_getR (r := 103) rfl rfl rfl rfl rfl (xnm_no rfl) ?_
    refine e_aload_n rfl rfl rfl (xnm_no rfl) ?_
    refine e_getR (r := 12) rfl rfl rfl rfl rfl (xnm_no rfl) ?_
    refine e_getR (r := 13) rfl rfl rfl rfl rfl (xnm_no rfl) ?_
    obtain ⟨w7, hw8, h⟩ := xbd_some h
    refine e_cVV (hc := hw8) (rest := []) rfl rfl rfl rfl rfl rfl rfl rfl (xnm_no rfl) ?_
    refine e_aload_n rfl rfl rfl (xnm_no rfl) ?_
    refine e_getR (r := 97) rfl rfl rfl rfl rfl (xnm_no rfl) ?_
    obtain ⟨w9, hw10, h⟩ := xbd_some h
    refine e_cIV (hc := hw10) (rest := []) rfl rfl rfl rfl rfl rfl rfl rfl (xnm_no rfl) ?_
    refine e_if_eq (t := 103) rfl rfl rfl (xnm_no rfl) h (fun h => ?_) (fun h => ?_)
    · exact xlfV h
    · refine e_aload_n rfl rfl rfl (xnm_no rfl) ?_
      refine e_getR (r := 109) rfl rfl rfl rfl rfl (xnm_no rfl) ?_
      refine e_aload_n rfl rfl rfl (xnm_no rfl) ?_
      refine e_getR (r := 10) rfl rfl rfl rfl rfl (xnm_no rfl) ?_
      refine e_getR (r := 11) rfl rfl rfl rfl rfl (xnm_no rfl) ?_
      refine e_aload_n rfl rfl rfl (xnm_no rfl) ?_
      refine e_getR (r := 10) rfl rfl rfl rfl rfl (xnm_no rfl) ?_
      refine e_getI rfl rfl rfl rfl (xnm_no rfl) ?_
      obtain ⟨w11, hw12, h⟩ := xbd_some h
      refine e_cVV (hc := hw12) (rest := []) rfl rfl rfl rfl rfl rfl rfl rfl (xnm_no rfl) ?_
      refine e_aload_n rfl rfl rfl (xnm_no rfl) ?_
      refine e_getR (r := 123) rfl rfl rfl rfl rfl (xnm_no rfl) ?_
      refine e_aload_n rfl rfl rfl (xnm_no rfl) ?_
      refine e_getR (r := 10) rfl rfl rfl rfl rfl (xnm_no rfl) ?_
      refine e_getI rfl rfl rfl rfl (xnm_no rfl) ?_
      refine e_aload_n rfl rfl rfl (xnm_no rfl) ?_
      refine e_getR (r := 109) rfl rfl rfl rfl rfl (xnm_no rfl) ?_
      obtain ⟨w13, hw14, h⟩ := xbd_some h
      refine e_cVV (hc := hw14) (rest := []) rfl rfl rfl rfl rfl rfl rfl rfl rfl ?_
      exact xlfV h
  · cases h
    exact e_retV rfl rfl
set_option maxRecDepth 4000 in
theorem bX11_study_0_103_i (m : xmm) {z : xmm} (h : ((fX1_isOrdered_103 m).bind fun (w1 : Int32 × xmm) => if w1.1 = 0 then xlt (xwi w1.2 0 6 (1 : Int32)) fun (m3 : xmm) => some m3 else (fX0_solve_116 13 (0 : Int32) w1.2).bind fun (w4 : xmm) => xlt (xwi w4 0 6 (1 : Int32)) fun (m6 : xmm) => some m6) = some z) : bX11_study_0_103 m = some z := by
  refine xstV ?_
  show xT 152 5 103 [(0, .ref 0)] [] m (none, z)
  refine e_aload_n rfl rfl rfl (xnm_no rfl) ?_
  refine e_getR (r := 103) rfl rfl rfl rfl rfl (xnm_no rfl) ?_
  obtain ⟨w1, hw2, h⟩ := xbd_some h
  refine e_cIV (hc := hw2) (rest := []) rfl rfl rfl rfl rfl rfl rfl rfl (xnm_no rfl) ?_
  refine e_if_eq (t := 128) rfl rfl (xnm_no rfl) (xnm_no rfl) h (fun h => ?_) (fun h => ?_)
  · refine e_aload_n rfl rfl rfl (xnm_no rfl) ?_
    refine e_iconst (x := 1) rfl (by decide) (xnm_no rfl) ?_
    refine e_putI rfl rfl (by decide) rfl (xnm_no rfl) ?_
    replace h := xlt_b h
    cases h
    exact e_retV rfl rfl
  · refine e_aload_n rfl rfl rfl (xnm_no rfl) ?_
    refine e_getR (r := 116) rfl rfl rfl rfl rfl (xnm_no rfl) ?_
    refine e_aload_n rfl rfl rfl (xnm_no rfl) ?_
    refine e_getR (r := 12) rfl rfl rfl rfl rfl (xnm_no rfl) ?_
    refine e_getR (r := 13) rfl rfl rfl rfl rfl (xnm_no rfl) ?_
    refine e_iconst (x := 0) rfl (by decide) (xnm_no rfl) ?_
    obtain ⟨w4, hw5, h⟩ := xbd_some h
    refine e_cVV (hc := hw5) (rest := []) rfl rfl rfl rfl rfl rfl rfl rfl (xnm_no rfl) ?_
    refine e_aload_n rfl rfl rfl (xnm_no rfl) ?_
    refine e_iconst (x := 1) rfl (by decide) (xnm_no rfl) ?_
    refine e_putI rfl rfl (by decide) rfl (xnm_no rfl) ?_
    replace h := xlt_b h
    cases h
    exact e_retV rfl rfl
set_option maxRecDepth 4000 in
theorem fX0_has_109_i (v1 : Int32) (m : xmm) {z : Int32 × xmm} (h : ((fX11_isArrow 114 v1 m).bind fun (w1 : Int32 × xmm) => xgd (xz01 w1.1) (some (w1.1, w1.2))) = some z) : fX0_has_109 v1 m = some z := by
  refine xstI ?_
  show xT 3 2 0 [(0, .ref 109), (1, .int v1)] [] m (some (.int z.1), z.2)
  refine e_aload_n rfl rfl rfl (xnm_no rfl) ?_
  refine e_getR (r := 114) rfl rfl rfl rfl rfl (xnm_no rfl) ?_
  refine e_iload_n rfl rfl (xnm_no rfl) ?_
  obtain ⟨w1, hw2, h⟩ := xbd_some h
  refine e_cIS (hc := hw2) (rest := []) rfl rfl rfl rfl rfl rfl rfl rfl (xnm_no rfl) ?_
  obtain ⟨g3, h⟩ := xgd_some h
  cases h
  exact e_retI rfl g3
set_option maxRecDepth 4000 in
theorem fX11_bit_i (v0 : Int32) (m : xmm) {z : Int32 × xmm} (h : (if v0 = 0 then some ((0 : Int32), m) else some ((1 : Int32), m)) = some z) : fX11_bit v0 m = some z := by
  refine xstI ?_
  show xT 144 0 0 [(0, .int v0)] [] m (some (.int z.1), z.2)
  refine e_iload_n rfl rfl (xnm_no rfl) ?_
  refine e_if_eq (t := 8) rfl rfl (xnm_no rfl) (xnm_no rfl) h (fun h => ?_) (fun h => ?_)
  · refine e_iconst (x := 0) rfl (by decide) (xnm_no rfl) ?_
    cases h
    exact e_retI rfl rfl
  · refine e_iconst (x := 1) rfl (by decide) (xnm_no rfl) ?_
    refine e_goto (t := 9) rfl rfl (xnm_no rfl) ?_
    cases h
    exact e_retI rfl rfl
set_option maxRecDepth 4000 in
theorem fX0_stepOf_109_i (v1 : Int32) (m : xmm) {z : Int32 × xmm} (h : (xgd (xinb 64 v1) (some ((m.1 115 (v1).toNatClampNeg), m))) = some z) : fX0_stepOf_109 v1 m = some z := by
  refine xstI ?_
  show xT 4 0 0 [(0, .ref 109), (1, .int v1)] [] m (some (.int z.1), z.2)
  refine e_aload_n rfl rfl rfl (xnm_no rfl) ?_
  refine e_getR (r := 115) rfl rfl rfl rfl rfl (xnm_no rfl) ?_
  refine e_iload_n rfl rfl (xnm_no rfl) ?_
  obtain ⟨g1, h⟩ := xgd_some h
  refine e_iald rfl g1 (xnm_no rfl) ?_
  cases h
  exact e_retI rfl rfl
set_option maxRecDepth 4000 in
theorem fX11_of_0_i (v1 : Int32) (v2 : Int32) (m : xmm) {z : Int32 × xmm} (h : ((fX3_lineAt 10 v1 m).bind fun (w1 : Int32 × xmm) => if w1.1 = (-1 : Int32) then some ((-1 : Int32), w1.2) else if v2 < 0 then some ((-1 : Int32), w1.2) else if v2 ≤ (3 : Int32) then if v2 = 0 then some ((w1.1 / (8 : Int32)), w1.2) else if v2 = (1 : Int32) then some ((w1.1 - w1.1 / (8 : Int32) * (8 : Int32)), w1.2) else (fX11_study_0 w1.2).bind fun (w3 : xmm) => (fX1_isOrdered_97 w3).bind fun (w5 : Int32 × xmm) => if w5.1 = 0 then some ((-2 : Int32), w5.2) else if v2 = (2 : Int32) then (fX0_stepOf_109 w1.1 w5.2).bind fun (w11 : Int32 × xmm) => some (w11.1, w11.2) else (fX0_has_109 w1.1 w5.2).bind fun (w7 : Int32 × xmm) => (fX11_bit w7.1 w7.2).bind fun (w9 : Int32 × xmm) => some (w9.1, w9.2) else some ((-1 : Int32), w1.2)) = some z) : fX11_of_0 v1 v2 m = some z := by
  refine xstI ?_
  show xT 125 6 0 [(0, .ref 0), (1, .int v1), (2, .int v2)] [] m (some (.int z.1), z.2)
  refine e_aload_n rfl rfl rfl (xnm_no rfl) ?_
  refine e_getR (r := 10) rfl rfl rfl rfl rfl (xnm_no rfl) ?_
  refine e_iload_n rfl rfl (xnm_no rfl) ?_
  obtain ⟨w1, hw2, h⟩ := xbd_some h
  refine e_cIV (hc := hw2) (rest := []) rfl rfl rfl rfl rfl rfl rfl rfl (xnm_no rfl) ?_
  refine e_istore_n rfl rfl (xnm_no rfl) ?_
  refine e_iload_n rfl rfl (xnm_no rfl) ?_
  refine e_iconst (x := -1) rfl (by decide) (xnm_no rfl) ?_
  refine e_icmp_eq (t := 23) rfl rfl (xnm_no rfl) (xnm_no rfl) h (fun h => ?_) (fun h => ?_)
  · refine e_iconst (x := -1) rfl (by decide) (xnm_no rfl) ?_
    cases h
    exact e_retI rfl rfl
  · refine e_iload_n rfl rfl (xnm_no rfl) ?_
    refine e_if_lt (t := 23) rfl rfl (xnm_no rfl) (xnm_no rfl) h (fun h => ?_) (fun h => ?_)
    · refine e_iconst (x := -1) rfl (by decide) (xnm_no rfl) ?_
      cases h
      exact e_retI rfl rfl
    · refine e_iload_n rfl rfl (xnm_no rfl) ?_
      refine e_iconst (x := 3) rfl (by decide) (xnm_no rfl) ?_
      refine e_icmp_le (t := 25) rfl rfl (xnm_no rfl) (xnm_no rfl) h (fun h => ?_) (fun h => ?_)
      · refine e_iload_n rfl rfl (xnm_no rfl) ?_
        refine e_if_ne (t := 34) rfl rfl (xnm_no rfl) (xnm_no rfl) h (fun h => ?_) (fun h => ?_)
        · refine e_iload_n rfl rfl (xnm_no rfl) ?_
          refine e_iconst (x := 1) rfl (by decide) (xnm_no rfl) ?_
          refine e_icmp_ne (t := 44) rfl rfl (xnm_no rfl) (xnm_no rfl) h (fun h => ?_) (fun h => ?_)
          · refine e_aload_n rfl rfl rfl (xnm_no rfl) ?_
            obtain ⟨w3, hw4, h⟩ := xbd_some h
            refine e_cVV (hc := hw4) (rest := []) rfl rfl rfl rfl rfl rfl rfl rfl (xnm_no rfl) ?_
            refine e_aload_n rfl rfl rfl (xnm_no rfl) ?_
            refine e_getR (r := 97) rfl rfl rfl rfl rfl (xnm_no rfl) ?_
            obtain ⟨w5, hw6, h⟩ := xbd_some h
            refine e_cIV (hc := hw6) (rest := []) rfl rfl rfl rfl rfl rfl rfl rfl (xnm_no rfl) ?_
            refine e_if_ne (t := 61) rfl rfl (xnm_no rfl) (xnm_no rfl) h (fun h => ?_) (fun h => ?_)
            · refine e_iload_n rfl rfl (xnm_no rfl) ?_
              refine e_iconst (x := 2) rfl (by decide) (xnm_no rfl) ?_
              refine e_icmp_ne (t := 77) rfl rfl (xnm_no rfl) (xnm_no rfl) h (fun h => ?_) (fun h => ?_)
              · refine e_aload_n rfl rfl rfl (xnm_no rfl) ?_
                refine e_getR (r := 109) rfl rfl rfl rfl rfl (xnm_no rfl) ?_
                refine e_iload_n rfl rfl (xnm_no rfl) ?_
                obtain ⟨w7, hw8, h⟩ := xbd_some h
                refine e_cIV (hc := hw8) (rest := []) rfl rfl rfl rfl rfl rfl rfl rfl (xnm_no rfl) ?_
                obtain ⟨w9, hw10, h⟩ := xbd_some h
                refine e_cIS (hc := hw10) (rest := []) rfl rfl rfl rfl rfl rfl rfl rfl (xnm_no rfl) ?_
                cases h
                exact e_retI rfl rfl
              · refine e_aload_n rfl rfl rfl (xnm_no rfl) ?_
                refine e_getR (r := 109) rfl rfl rfl rfl rfl (xnm_no rfl) ?_
                refine e_iload_n rfl rfl (xnm_no rfl) ?_
                obtain ⟨w11, hw12, h⟩ := xbd_some h
                refine e_cIV (hc := hw12) (rest := []) rfl rfl rfl rfl rfl rfl rfl rfl (xnm_no rfl) ?_
                refine e_goto (t := 88) rfl rfl (xnm_no rfl) ?_
                cases h
                exact e_retI rfl rfl
            · refine e_bipush (x := -2) rfl (by decide) (xnm_no rfl) ?_
              cases h
              exact e_retI rfl rfl
          · refine e_iload_n rfl rfl (xnm_no rfl) ?_
            refine e_bipush (x := 8) rfl (by decide) (xnm_no rfl) ?_
            refine e_irem rfl (by decide) (xnm_no rfl) ?_
            cases h
            exact e_retI rfl rfl
        · refine e_iload_n rfl rfl (xnm_no rfl) ?_
          refine e_bipush (x := 8) rfl (by decide) (xnm_no rfl) ?_
          refine e_idiv rfl (by decide) (xnm_no rfl) ?_
          cases h
          exact e_retI rfl rfl
      · refine e_iconst (x := -1) rfl (by decide) (xnm_no rfl) ?_
        cases h
        exact e_retI rfl rfl
set_option maxRecDepth 4000 in
theorem fX12_arrowAt_144_i (v1 : Int32) (m : xmm) {z : Int32 × xmm} (h : (bX12_arrowAt_144_4 v1 (0 : Int32) m) = some z) : fX12_arrowAt_144 v1 m = some z := by
  refine xstI ?_
  show xT 197 1 0 [(0, .ref 144), (1, .int v1)] [] m (some (.int z.1), z.2)
  refine e_iload_n rfl rfl (xnm_no rfl) ?_
  refine e_istore_n rfl rfl (xnm_no rfl) ?_
  refine e_iconst (x := 0) rfl (by decide) (xnm_no rfl) ?_
  refine e_istore_n rfl rfl rfl ?_
  exact xlfI h
set_option maxRecDepth 4000 in
theorem bX12_arrowAt_144_4_i (v2 : Int32) (v3 : Int32) (m : xmm) {z : Int32 × xmm} (h : (if (m.1 144 17) ≤ v3 then some ((-1 : Int32), m) else bX12_arrowAt_144_17 v2 v3 (v3 + (1 : Int32)) m) = some z) : bX12_arrowAt_144_4 v2 v3 m = some z := by
  refine xstI ?_
  show xT 197 1 4 [(0, .ref 144), (2, .int v2), (3, .int v3)] [] m (some (.int z.1), z.2)
  refine e_iload_n rfl rfl (xnm_no rfl) ?_
  refine e_aload_n rfl rfl rfl (xnm_no rfl) ?_
  refine e_getI rfl rfl rfl rfl (xnm_no rfl) ?_
  refine e_icmp_ge (t := 70) rfl rfl (xnm_no rfl) (xnm_no rfl) h (fun h => ?_) (fun h => ?_)
  · refine e_iconst (x := -1) rfl (by decide) (xnm_no rfl) ?_
    cases h
    exact e_retI rfl rfl
  · refine e_iload_n rfl rfl (xnm_no rfl) ?_
    refine e_iconst (x := 1) rfl (by decide) (xnm_no rfl) ?_
    refine e_iadd rfl (xnm_no rfl) ?_
    refine e_istore rfl rfl rfl ?_
    exact xlfI h
set_option maxRecDepth 4000 in
theorem bX12_arrowAt_144_17_i (v2 : Int32) (v3 : Int32) (v4 : Int32) (m : xmm) {z : Int32 × xmm} (h : (if (m.1 144 17) ≤ v4 then bX12_arrowAt_144_4 v2 (v3 + (1 : Int32)) m else xgd (xinb 9 v3) ((fX12_has (m.1 152 (v3).toNatClampNeg) v4 m).bind fun (w2 : Int32 × xmm) => if w2.1 = 0 then bX12_arrowAt_144_17 v2 v3 (v4 + (1 : Int32)) w2.2 else if v2 = 0 then some ((((8 : Int32) * v3) + v4), w2.2) else bX12_arrowAt_144_17 (v2 + (-1 : Int32)) v3 (v4 + (1 : Int32)) w2.2)) = some z) : bX12_arrowAt_144_17 v2 v3 v4 m = some z := by
  refine xstI ?_
  show xT 197 1 17 [(0, .ref 144), (2, .int v2), (3, .int v3), (4, .int v4)] [] m (some (.int z.1), z.2)
  refine e_iload rfl rfl (xnm_no rfl) ?_
  refine e_aload_n rfl rfl rfl (xnm_no rfl) ?_
  refine e_getI rfl rfl rfl rfl (xnm_no rfl) ?_
  refine e_icmp_ge (t := 64) rfl rfl (xnm_no rfl) (xnm_no rfl) h (fun h => ?_) (fun h => ?_)
  · refine e_iinc (y := 1) rfl rfl rfl (by decide) (xnm_no rfl) ?_
    refine e_goto (t := 4) rfl rfl rfl ?_
    exact xlfI h
  · refine e_aload_n rfl rfl rfl (xnm_no rfl) ?_
    refine e_getR (r := 152) rfl rfl rfl rfl rfl (xnm_no rfl) ?_
    refine e_iload_n rfl rfl (xnm_no rfl) ?_
    obtain ⟨g1, h⟩ := xgd_some h
    refine e_iald rfl g1 (xnm_no rfl) ?_
    refine e_iload rfl rfl (xnm_no rfl) ?_
    obtain ⟨w2, hw3, h⟩ := xbd_some h
    refine e_cIS (hc := hw3) (rest := []) rfl rfl rfl rfl rfl rfl rfl rfl (xnm_no rfl) ?_
    refine e_if_ne (t := 43) rfl rfl (xnm_no rfl) (xnm_no rfl) h (fun h => ?_) (fun h => ?_)
    · refine e_iload_n rfl rfl (xnm_no rfl) ?_
      refine e_if_ne (t := 55) rfl rfl (xnm_no rfl) (xnm_no rfl) h (fun h => ?_) (fun h => ?_)
      · refine e_iinc (y := -1) rfl rfl rfl (by decide) (xnm_no rfl) ?_
        refine e_iinc (y := 1) rfl rfl rfl (by decide) (xnm_no rfl) ?_
        refine e_goto (t := 17) rfl rfl rfl ?_
        exact xlfI h
      · refine e_bipush (x := 8) rfl (by decide) (xnm_no rfl) ?_
        refine e_iload_n rfl rfl (xnm_no rfl) ?_
        refine e_imul rfl (xnm_no rfl) ?_
        refine e_iload rfl rfl (xnm_no rfl) ?_
        refine e_iadd rfl (xnm_no rfl) ?_
        cases h
        exact e_retI rfl rfl
    · refine e_goto (t := 58) rfl rfl (xnm_no rfl) ?_
      refine e_iinc (y := 1) rfl rfl rfl (by decide) (xnm_no rfl) ?_
      refine e_goto (t := 17) rfl rfl rfl ?_
      exact xlfI h
set_option maxRecDepth 4000 in
theorem fX12_isArrow_i (v0 : Nat) (v1 : Int32) (v2 : Int32) (m : xmm) {z : Int32 × xmm} (h : (xgd (!(Nat.beq v0 1999)) (xgd (xia 1 v0 v1) ((fX12_has (m.1 v0 (v1).toNatClampNeg) v2 m).bind fun (w3 : Int32 × xmm) => xgd (xz01 w3.1) (some (w3.1, w3.2))))) = some z) : fX12_isArrow v0 v1 v2 m = some z := by
  refine xstI ?_
  show xT 199 1 0 [(0, .ref v0), (1, .int v1), (2, .int v2)] [] m (some (.int z.1), z.2)
  obtain ⟨g1, h⟩ := xgd_some h
  refine e_aload_n rfl rfl (xnb g1) (xnm_no rfl) ?_
  refine e_iload_n rfl rfl (xnm_no rfl) ?_
  obtain ⟨g2, h⟩ := xgd_some h
  refine e_iald rfl g2 (xnm_no rfl) ?_
  refine e_iload_n rfl rfl (xnm_no rfl) ?_
  obtain ⟨w3, hw4, h⟩ := xbd_some h
  refine e_cIS (hc := hw4) (rest := []) rfl rfl rfl rfl rfl rfl rfl rfl (xnm_no rfl) ?_
  obtain ⟨g5, h⟩ := xgd_some h
  cases h
  exact e_retI rfl g5
set_option maxRecDepth 4000 in
theorem fX12_forcesIt_i (v0 : Nat) (v1 : Int32) (v2 : Int32) (m : xmm) {z : Int32 × xmm} (h : (if v1 = v2 then some ((0 : Int32), m) else xgd (!(Nat.beq v0 1999)) ((fX12_isArrow v0 (v1 / (8 : Int32)) (v1 - v1 / (8 : Int32) * (8 : Int32)) m).bind fun (w2 : Int32 × xmm) => if w2.1 = 0 then some ((0 : Int32), w2.2) else (fX12_isArrow v0 (v2 / (8 : Int32)) (v2 - v2 / (8 : Int32) * (8 : Int32)) w2.2).bind fun (w4 : Int32 × xmm) => if w4.1 = 0 then some ((0 : Int32), w4.2) else if (v1 / (8 : Int32)) = (v2 / (8 : Int32)) then xgd (xia 1 v0 (v1 - v1 / (8 : Int32) * (8 : Int32))) ((fX12_has (w4.2.1 v0 ((v1 - v1 / (8 : Int32) * (8 : Int32))).toNatClampNeg) (v2 - v2 / (8 : Int32) * (8 : Int32)) w4.2).bind fun (w7 : Int32 × xmm) => if w7.1 = 0 then some ((1 : Int32), w7.2) else bX12_forcesIt_69 v0 (v1 / (8 : Int32)) (v1 - v1 / (8 : Int32) * (8 : Int32)) (v2 / (8 : Int32)) (v2 - v2 / (8 : Int32) * (8 : Int32)) w7.2) else bX12_forcesIt_69 v0 (v1 / (8 : Int32)) (v1 - v1 / (8 : Int32) * (8 : Int32)) (v2 / (8 : Int32)) (v2 - v2 / (8 : Int32) * (8 : Int32)) w4.2)) = some z) : fX12_forcesIt v0 v1 v2 m = some z := by
  refine xstI ?_
  show xT 200 2 0 [(0, .ref v0), (1, .int v1), (2, .int v2)] [] m (some (.int z.1), z.2)
  refine e_iload_n rfl rfl (xnm_no rfl) ?_
  refine e_bipush (x := 8) rfl (by decide) (xnm_no rfl) ?_
  refine e_idiv rfl (by decide) (xnm_no rfl) ?_
  refine e_istore_n rfl rfl (xnm_no rfl) ?_
  refine e_iload_n rfl rfl (xnm_no rfl) ?_
  refine e_bipush (x := 8) rfl (by decide) (xnm_no rfl) ?_
  refine e_irem rfl (by decide) (xnm_no rfl) ?_
  refine e_istore rfl rfl (xnm_no rfl) ?_
  refine e_iload_n rfl rfl (xnm_no rfl) ?_
  refine e_bipush (x := 8) rfl (by decide) (xnm_no rfl) ?_
  refine e_idiv rfl (by decide) (xnm_no rfl) ?_
  refine e_istore rfl rfl (xnm_no rfl) ?_
  refine e_iload_n rfl rfl (xnm_no rfl) ?_
  refine e_bipush (x := 8) rfl (by decide) (xnm_no rfl) ?_
  refine e_irem rfl (by decide) (xnm_no rfl) ?_
  refine e_istore rfl rfl (xnm_no rfl) ?_
  refine e_iload_n rfl rfl (xnm_no rfl) ?_
  refine e_iload_n rfl rfl (xnm_no rfl) ?_
  refine e_icmp_eq (t := 49) rfl rfl (xnm_no rfl) (xnm_no rfl) h (fun h => ?_) (fun h => ?_)
  · refine e_iconst (x := 0) rfl (by decide) (xnm_no rfl) ?_
    cases h
    exact e_retI rfl (by decide)
  · obtain ⟨g1, h⟩ := xgd_some h
    refine e_aload_n rfl rfl (xnb g1) (xnm_no rfl) ?_
    refine e_iload_n rfl rfl (xnm_no rfl) ?_
    refine e_iload rfl rfl (xnm_no rfl) ?_
    obtain ⟨w2, hw3, h⟩ := xbd_some h
    refine e_cIS (hc := hw3) (rest := []) rfl rfl rfl rfl rfl rfl rfl rfl (xnm_no rfl) ?_
    refine e_if_eq (t := 49) rfl rfl (xnm_no rfl) (xnm_no rfl) h (fun h => ?_) (fun h => ?_)
    · refine e_iconst (x := 0) rfl (by decide) (xnm_no rfl) ?_
      cases h
      exact e_retI rfl (by decide)
    · refine e_aload_n rfl rfl (xnb g1) (xnm_no rfl) ?_
      refine e_iload rfl rfl (xnm_no rfl) ?_
      refine e_iload rfl rfl (xnm_no rfl) ?_
      obtain ⟨w4, hw5, h⟩ := xbd_some h
      refine e_cIS (hc := hw5) (rest := []) rfl rfl rfl rfl rfl rfl rfl rfl (xnm_no rfl) ?_
      refine e_if_ne (t := 51) rfl rfl (xnm_no rfl) (xnm_no rfl) h (fun h => ?_) (fun h => ?_)
      · refine e_iload_n rfl rfl (xnm_no rfl) ?_
        refine e_iload rfl rfl (xnm_no rfl) ?_
        refine e_icmp_ne (t := 69) rfl rfl rfl (xnm_no rfl) h (fun h => ?_) (fun h => ?_)
        · exact xlfI h
        · refine e_aload_n rfl rfl (xnb g1) (xnm_no rfl) ?_
          refine e_iload rfl rfl (xnm_no rfl) ?_
          obtain ⟨g6, h⟩ := xgd_some h
          refine e_iald rfl g6 (xnm_no rfl) ?_
          refine e_iload rfl rfl (xnm_no rfl) ?_
          obtain ⟨w7, hw8, h⟩ := xbd_some h
          refine e_cIS (hc := hw8) (rest := []) rfl rfl rfl rfl rfl rfl rfl rfl (xnm_no rfl) ?_
          refine e_if_eq (t := 87) rfl rfl (xnm_no rfl) rfl h (fun h => ?_) (fun h => ?_)
          · refine e_iconst (x := 1) rfl (by decide) (xnm_no rfl) ?_
            refine e_goto (t := 92) rfl rfl (xnm_no rfl) ?_
            cases h
            exact e_retI rfl (by decide)
          · exact xlfI h
      · refine e_iconst (x := 0) rfl (by decide) (xnm_no rfl) ?_
        cases h
        exact e_retI rfl (by decide)
set_option maxRecDepth 4000 in
theorem bX12_forcesIt_69_i (v0 : Nat) (v3 : Int32) (v4 : Int32) (v5 : Int32) (v6 : Int32) (m : xmm) {z : Int32 × xmm} (h : (if v4 = v6 then xgd (!(Nat.beq v0 1999)) (xgd (xia 1 v0 v3) ((fX12_has (m.1 v0 (v3).toNatClampNeg) v5 m).bind fun (w3 : Int32 × xmm) => if w3.1 = 0 then some ((1 : Int32), w3.2) else some ((0 : Int32), w3.2))) else some ((0 : Int32), m)) = some z) : bX12_forcesIt_69 v0 v3 v4 v5 v6 m = some z := by
  refine xstI ?_
  show xT 200 2 69 [(0, .ref v0), (3, .int v3), (4, .int v4), (5, .int v5), (6, .int v6)] [] m (some (.int z.1), z.2)
  refine e_iload rfl rfl (xnm_no rfl) ?_
  refine e_iload rfl rfl (xnm_no rfl) ?_
  refine e_icmp_ne (t := 91) rfl rfl (xnm_no rfl) (xnm_no rfl) h (fun h => ?_) (fun h => ?_)
  · refine e_iconst (x := 0) rfl (by decide) (xnm_no rfl) ?_
    cases h
    exact e_retI rfl (by decide)
  · obtain ⟨g1, h⟩ := xgd_some h
    refine e_aload_n rfl rfl (xnb g1) (xnm_no rfl) ?_
    refine e_iload_n rfl rfl (xnm_no rfl) ?_
    obtain ⟨g2, h⟩ := xgd_some h
    refine e_iald rfl g2 (xnm_no rfl) ?_
    refine e_iload rfl rfl (xnm_no rfl) ?_
    obtain ⟨w3, hw4, h⟩ := xbd_some h
    refine e_cIS (hc := hw4) (rest := []) rfl rfl rfl rfl rfl rfl rfl rfl (xnm_no rfl) ?_
    refine e_if_ne (t := 91) rfl rfl (xnm_no rfl) (xnm_no rfl) h (fun h => ?_) (fun h => ?_)
    · refine e_iconst (x := 0) rfl (by decide) (xnm_no rfl) ?_
      cases h
      exact e_retI rfl (by decide)
    · refine e_iconst (x := 1) rfl (by decide) (xnm_no rfl) ?_
      refine e_goto (t := 92) rfl rfl (xnm_no rfl) ?_
      cases h
      exact e_retI rfl (by decide)
set_option maxRecDepth 4000 in
theorem fX12_laysClass_144_i (v1 : Nat) (v2 : Int32) (m : xmm) {z : xmm} (h : (bX12_laysClass_144_2 v1 v2 (0 : Int32) m) = some z) : fX12_laysClass_144 v1 v2 m = some z := by
  refine xstV ?_
  show xT 202 3 0 [(0, .ref 144), (1, .ref v1), (2, .int v2)] [] m (none, z)
  refine e_iconst (x := 0) rfl (by decide) (xnm_no rfl) ?_
  refine e_istore_n rfl rfl rfl ?_
  exact xlfV h
set_option maxRecDepth 4000 in
theorem bX12_laysClass_144_2_i (v1 : Nat) (v2 : Int32) (v3 : Int32) (m : xmm) {z : xmm} (h : (if (64 : Int32) ≤ v3 then xlt (xwi m 160 0 v2) fun (m1 : xmm) => xgd (xinb 64 v2) (xlt (xwi m1 161 (v2).toNatClampNeg (0 : Int32)) fun (m3 : xmm) => xlt (xwi m3 144 31 (1 : Int32)) fun (m4 : xmm) => bX12_laysClass_144_42 v1 (0 : Int32) m4) else xgd (xinb 64 v3) (xlt (xwi m 161 (v3).toNatClampNeg (-1 : Int32)) fun (m6 : xmm) => bX12_laysClass_144_2 v1 v2 (v3 + (1 : Int32)) m6)) = some z) : bX12_laysClass_144_2 v1 v2 v3 m = some z := by
  refine xstV ?_
  show xT 202 3 2 [(0, .ref 144), (1, .ref v1), (2, .int v2), (3, .int v3)] [] m (none, z)
  refine e_iload_n rfl rfl (xnm_no rfl) ?_
  refine e_bipush (x := 64) rfl (by decide) (xnm_no rfl) ?_
  refine e_icmp_ge (t := 21) rfl rfl (xnm_no rfl) (xnm_no rfl) h (fun h => ?_) (fun h => ?_)
  · refine e_aload_n rfl rfl rfl (xnm_no rfl) ?_
    refine e_getR (r := 160) rfl rfl rfl rfl rfl (xnm_no rfl) ?_
    refine e_iconst (x := 0) rfl (by decide) (xnm_no rfl) ?_
    refine e_iload_n rfl rfl (xnm_no rfl) ?_
    refine e_iast rfl (by decide) (xnm_no rfl) ?_
    replace h := xlt_b h
    refine e_aload_n rfl rfl rfl (xnm_no rfl) ?_
    refine e_getR (r := 161) rfl rfl rfl rfl rfl (xnm_no rfl) ?_
    refine e_iload_n rfl rfl (xnm_no rfl) ?_
    refine e_iconst (x := 0) rfl (by decide) (xnm_no rfl) ?_
    obtain ⟨g2, h⟩ := xgd_some h
    refine e_iast rfl g2 (xnm_no rfl) ?_
    replace h := xlt_b h
    refine e_aload_n rfl rfl rfl (xnm_no rfl) ?_
    refine e_iconst (x := 1) rfl (by decide) (xnm_no rfl) ?_
    refine e_putI rfl rfl rfl rfl (xnm_no rfl) ?_
    replace h := xlt_b h
    refine e_iconst (x := 0) rfl (by decide) (xnm_no rfl) ?_
    refine e_istore_n rfl rfl rfl ?_
    exact xlfV h
  · refine e_aload_n rfl rfl rfl (xnm_no rfl) ?_
    refine e_getR (r := 161) rfl rfl rfl rfl rfl (xnm_no rfl) ?_
    refine e_iload_n rfl rfl (xnm_no rfl) ?_
    refine e_iconst (x := -1) rfl (by decide) (xnm_no rfl) ?_
    obtain ⟨g5, h⟩ := xgd_some h
    refine e_iast rfl g5 (xnm_no rfl) ?_
    replace h := xlt_b h
    refine e_iinc (y := 1) rfl rfl rfl (by decide) (xnm_no rfl) ?_
    refine e_goto (t := 2) rfl rfl rfl ?_
    exact xlfV h
set_option maxRecDepth 4000 in
theorem bX12_laysClass_144_42_i (v1 : Nat) (v3 : Int32) (m : xmm) {z : xmm} (h : (if (m.1 144 31) ≤ v3 then some m else bX12_laysClass_144_53 v1 v3 (0 : Int32) m) = some z) : bX12_laysClass_144_42 v1 v3 m = some z := by
  refine xstV ?_
  show xT 202 3 42 [(0, .ref 144), (1, .ref v1), (3, .int v3)] [] m (none, z)
  refine e_iload_n rfl rfl (xnm_no rfl) ?_
  refine e_aload_n rfl rfl rfl (xnm_no rfl) ?_
  refine e_getI rfl rfl rfl rfl (xnm_no rfl) ?_
  refine e_icmp_ge (t := 141) rfl rfl (xnm_no rfl) (xnm_no rfl) h (fun h => ?_) (fun h => ?_)
  · cases h
    exact e_retV rfl rfl
  · refine e_iconst (x := 0) rfl (by decide) (xnm_no rfl) ?_
    refine e_istore rfl rfl rfl ?_
    exact xlfV h
set_option maxRecDepth 4000 in
theorem bX12_laysClass_144_53_i (v1 : Nat) (v3 : Int32) (v4 : Int32) (m : xmm) {z : xmm} (h : (if (64 : Int32) ≤ v4 then bX12_laysClass_144_42 v1 (v3 + (1 : Int32)) m else xgd (xinb 64 v4) (if 0 ≤ (m.1 161 (v4).toNatClampNeg) then bX12_laysClass_144_53 v1 v3 (v4 + (1 : Int32)) m else xgd (!(Nat.beq v1 1999)) (xgd (xinb 64 v3) ((fX12_forcesIt v1 (m.1 160 (v3).toNatClampNeg) v4 m).bind fun (w4 : Int32 × xmm) => if w4.1 = 0 then bX12_laysClass_144_53 v1 v3 (v4 + (1 : Int32)) w4.2 else xgd (xinb 64 (w4.2.1 160 (v3).toNatClampNeg)) (xlt (xwi w4.2 161 (v4).toNatClampNeg ((w4.2.1 161 ((w4.2.1 160 (v3).toNatClampNeg)).toNatClampNeg) + (1 : Int32))) fun (m7 : xmm) => xgd (xinb 64 (m7.1 144 31)) (xlt (xwi m7 160 ((m7.1 144 31)).toNatClampNeg v4) fun (m9 : xmm) => xlt (xwi m9 144 31 ((m9.1 144 31) + (1 : Int32))) fun (m10 : xmm) => bX12_laysClass_144_53 v1 v3 (v4 + (1 : Int32)) m10)))))) = some z) : bX12_laysClass_144_53 v1 v3 v4 m = some z := by
  refine xstV ?_
  show xT 202 3 53 [(0, .ref 144), (1, .ref v1), (3, .int v3), (4, .int v4)] [] m (none, z)
  refine e_iload rfl rfl (xnm_no rfl) ?_
  refine e_bipush (x := 64) rfl (by decide) (xnm_no rfl) ?_
  refine e_icmp_ge (t := 135) rfl rfl (xnm_no rfl) (xnm_no rfl) h (fun h => ?_) (fun h => ?_)
  · refine e_iinc (y := 1) rfl rfl rfl (by decide) (xnm_no rfl) ?_
    refine e_goto (t := 42) rfl rfl rfl ?_
    exact xlfV h
  · refine e_aload_n rfl rfl rfl (xnm_no rfl) ?_
    refine e_getR (r := 161) rfl rfl rfl rfl rfl (xnm_no rfl) ?_
    refine e_iload rfl rfl (xnm_no rfl) ?_
    obtain ⟨g1, h⟩ := xgd_some h
    refine e_iald rfl g1 (xnm_no rfl) ?_
    refine e_if_ge (t := 129) rfl rfl (xnm_no rfl) (xnm_no rfl) h (fun h => ?_) (fun h => ?_)
    · refine e_iinc (y := 1) rfl rfl rfl (by decide) (xnm_no rfl) ?_
      refine e_goto (t := 53) rfl rfl rfl ?_
      exact xlfV h
    · obtain ⟨g2, h⟩ := xgd_some h
      refine e_aload_n rfl rfl (xnb g2) (xnm_no rfl) ?_
      refine e_aload_n rfl rfl rfl (xnm_no rfl) ?_
      refine e_getR (r := 160) rfl rfl rfl rfl rfl (xnm_no rfl) ?_
      refine e_iload_n rfl rfl (xnm_no rfl) ?_
      obtain ⟨g3, h⟩ := xgd_some h
      refine e_iald rfl g3 (xnm_no rfl) ?_
      refine e_iload rfl rfl (xnm_no rfl) ?_
      obtain ⟨w4, hw5, h⟩ := xbd_some h
      refine e_cIS (hc := hw5) (rest := []) rfl rfl rfl rfl rfl rfl rfl rfl (xnm_no rfl) ?_
      refine e_if_ne (t := 88) rfl rfl (xnm_no rfl) (xnm_no rfl) h (fun h => ?_) (fun h => ?_)
      · refine e_aload_n rfl rfl rfl (xnm_no rfl) ?_
        refine e_getR (r := 161) rfl rfl rfl rfl rfl (xnm_no rfl) ?_
        refine e_iload rfl rfl (xnm_no rfl) ?_
        refine e_aload_n rfl rfl rfl (xnm_no rfl) ?_
        refine e_getR (r := 161) rfl rfl rfl rfl rfl (xnm_no rfl) ?_
        refine e_aload_n rfl rfl rfl (xnm_no rfl) ?_
        refine e_getR (r := 160) rfl rfl rfl rfl rfl (xnm_no rfl) ?_
        refine e_iload_n rfl rfl (xnm_no rfl) ?_
        refine e_iald rfl g3 (xnm_no rfl) ?_
        obtain ⟨g6, h⟩ := xgd_some h
        refine e_iald rfl g6 (xnm_no rfl) ?_
        refine e_iconst (x := 1) rfl (by decide) (xnm_no rfl) ?_
        refine e_iadd rfl (xnm_no rfl) ?_
        refine e_iast rfl g1 (xnm_no rfl) ?_
        replace h := xlt_b h
        refine e_aload_n rfl rfl rfl (xnm_no rfl) ?_
        refine e_getR (r := 160) rfl rfl rfl rfl rfl (xnm_no rfl) ?_
        refine e_aload_n rfl rfl rfl (xnm_no rfl) ?_
        refine e_getI rfl rfl rfl rfl (xnm_no rfl) ?_
        refine e_iload rfl rfl (xnm_no rfl) ?_
        obtain ⟨g8, h⟩ := xgd_some h
        refine e_iast rfl g8 (xnm_no rfl) ?_
        replace h := xlt_b h
        refine e_aload_n rfl rfl rfl (xnm_no rfl) ?_
        refine e_dup rfl rfl (xnm_no rfl) ?_
        refine e_getI rfl rfl rfl rfl (xnm_no rfl) ?_
        refine e_iconst (x := 1) rfl (by decide) (xnm_no rfl) ?_
        refine e_iadd rfl (xnm_no rfl) ?_
        refine e_putI rfl rfl rfl rfl (xnm_no rfl) ?_
        replace h := xlt_b h
        refine e_iinc (y := 1) rfl rfl rfl (by decide) (xnm_no rfl) ?_
        refine e_goto (t := 53) rfl rfl rfl ?_
        exact xlfV h
      · refine e_goto (t := 129) rfl rfl (xnm_no rfl) ?_
        refine e_iinc (y := 1) rfl rfl rfl (by decide) (xnm_no rfl) ?_
        refine e_goto (t := 53) rfl rfl rfl ?_
        exact xlfV h
set_option maxRecDepth 4000 in
theorem fX12_turned_i (v0 : Int32) (m : xmm) {z : Int32 × xmm} (h : (some ((((8 : Int32) * (v0 - v0 / (8 : Int32) * (8 : Int32))) + (v0 / (8 : Int32))), m)) = some z) : fX12_turned v0 m = some z := by
  refine xstI ?_
  show xT 203 0 0 [(0, .int v0)] [] m (some (.int z.1), z.2)
  refine e_bipush (x := 8) rfl (by decide) (xnm_no rfl) ?_
  refine e_iload_n rfl rfl (xnm_no rfl) ?_
  refine e_bipush (x := 8) rfl (by decide) (xnm_no rfl) ?_
  refine e_irem rfl (by decide) (xnm_no rfl) ?_
  refine e_imul rfl (xnm_no rfl) ?_
  refine e_iload_n rfl rfl (xnm_no rfl) ?_
  refine e_bipush (x := 8) rfl (by decide) (xnm_no rfl) ?_
  refine e_idiv rfl (by decide) (xnm_no rfl) ?_
  refine e_iadd rfl (xnm_no rfl) ?_
  cases h
  exact e_retI rfl rfl
set_option maxRecDepth 4000 in
theorem fX12_isOdd_144_i (m : xmm) {z : Int32 × xmm} (h : (bX12_isOdd_144_2 (0 : Int32) m) = some z) : fX12_isOdd_144 m = some z := by
  refine xstI ?_
  show xT 204 1 0 [(0, .ref 144)] [] m (some (.int z.1), z.2)
  refine e_iconst (x := 0) rfl (by decide) (xnm_no rfl) ?_
  refine e_istore_n rfl rfl rfl ?_
  exact xlfI h
set_option maxRecDepth 4000 in
theorem bX12_isOdd_144_2_i (v1 : Int32) (m : xmm) {z : Int32 × xmm} (h : (if (m.1 144 31) ≤ v1 then some ((0 : Int32), m) else xgd (xinb 64 v1) ((fX12_turned (m.1 160 (v1).toNatClampNeg) m).bind fun (w2 : Int32 × xmm) => xgd (xinb 64 w2.1) (if (w2.2.1 161 (w2.1).toNatClampNeg) < 0 then bX12_isOdd_144_2 (v1 + (1 : Int32)) w2.2 else some ((1 : Int32), w2.2)))) = some z) : bX12_isOdd_144_2 v1 m = some z := by
  refine xstI ?_
  show xT 204 1 2 [(0, .ref 144), (1, .int v1)] [] m (some (.int z.1), z.2)
  refine e_iload_n rfl rfl (xnm_no rfl) ?_
  refine e_aload_n rfl rfl rfl (xnm_no rfl) ?_
  refine e_getI rfl rfl rfl rfl (xnm_no rfl) ?_
  refine e_icmp_ge (t := 35) rfl rfl (xnm_no rfl) (xnm_no rfl) h (fun h => ?_) (fun h => ?_)
  · refine e_iconst (x := 0) rfl (by decide) (xnm_no rfl) ?_
    cases h
    exact e_retI rfl (by decide)
  · refine e_aload_n rfl rfl rfl (xnm_no rfl) ?_
    refine e_getR (r := 161) rfl rfl rfl rfl rfl (xnm_no rfl) ?_
    refine e_aload_n rfl rfl rfl (xnm_no rfl) ?_
    refine e_getR (r := 160) rfl rfl rfl rfl rfl (xnm_no rfl) ?_
    refine e_iload_n rfl rfl (xnm_no rfl) ?_
    obtain ⟨g1, h⟩ := xgd_some h
    refine e_iald rfl g1 (xnm_no rfl) ?_
    obtain ⟨w2, hw3, h⟩ := xbd_some h
    refine e_cIS (hc := hw3) (rest := [.ref 161]) rfl rfl rfl rfl rfl rfl rfl rfl (xnm_no rfl) ?_
    obtain ⟨g4, h⟩ := xgd_some h
    refine e_iald rfl g4 (xnm_no rfl) ?_
    refine e_if_lt (t := 29) rfl rfl (xnm_no rfl) (xnm_no rfl) h (fun h => ?_) (fun h => ?_)
    · refine e_iinc (y := 1) rfl rfl rfl (by decide) (xnm_no rfl) ?_
      refine e_goto (t := 2) rfl rfl rfl ?_
      exact xlfI h
    · refine e_iconst (x := 1) rfl (by decide) (xnm_no rfl) ?_
      cases h
      exact e_retI rfl (by decide)
set_option maxRecDepth 4000 in
theorem fX12_laysClasses_144_i (v1 : Nat) (m : xmm) {z : xmm} (h : (xlt (xwi m 144 32 (0 : Int32)) fun (m1 : xmm) => xlt (xwi m1 144 33 (0 : Int32)) fun (m2 : xmm) => bX12_laysClasses_144_12 v1 (0 : Int32) m2) = some z) : fX12_laysClasses_144 v1 m = some z := by
  refine xstV ?_
  show xT 205 4 0 [(0, .ref 144), (1, .ref v1)] [] m (none, z)
  refine e_aload_n rfl rfl rfl (xnm_no rfl) ?_
  refine e_iconst (x := 0) rfl (by decide) (xnm_no rfl) ?_
  refine e_putI rfl rfl rfl rfl (xnm_no rfl) ?_
  replace h := xlt_b h
  refine e_aload_n rfl rfl rfl (xnm_no rfl) ?_
  refine e_iconst (x := 0) rfl (by decide) (xnm_no rfl) ?_
  refine e_putI rfl rfl rfl rfl (xnm_no rfl) ?_
  replace h := xlt_b h
  refine e_iconst (x := 0) rfl (by decide) (xnm_no rfl) ?_
  refine e_istore_n rfl rfl rfl ?_
  exact xlfV h
set_option maxRecDepth 4000 in
theorem bX12_laysClasses_144_12_i (v1 : Nat) (v2 : Int32) (m : xmm) {z : xmm} (h : (if (64 : Int32) ≤ v2 then bX12_laysClasses_144_33 v1 (0 : Int32) m else xgd (xinb 64 v2) (xlt (xwi m 162 (v2).toNatClampNeg (0 : Int32)) fun (m2 : xmm) => bX12_laysClasses_144_12 v1 (v2 + (1 : Int32)) m2)) = some z) : bX12_laysClasses_144_12 v1 v2 m = some z := by
  refine xstV ?_
  show xT 205 4 12 [(0, .ref 144), (1, .ref v1), (2, .int v2)] [] m (none, z)
  refine e_iload_n rfl rfl (xnm_no rfl) ?_
  refine e_bipush (x := 64) rfl (by decide) (xnm_no rfl) ?_
  refine e_icmp_ge (t := 31) rfl rfl (xnm_no rfl) (xnm_no rfl) h (fun h => ?_) (fun h => ?_)
  · refine e_iconst (x := 0) rfl (by decide) (xnm_no rfl) ?_
    refine e_istore_n rfl rfl rfl ?_
    exact xlfV h
  · refine e_aload_n rfl rfl rfl (xnm_no rfl) ?_
    refine e_getR (r := 162) rfl rfl rfl rfl rfl (xnm_no rfl) ?_
    refine e_iload_n rfl rfl (xnm_no rfl) ?_
    refine e_iconst (x := 0) rfl (by decide) (xnm_no rfl) ?_
    obtain ⟨g1, h⟩ := xgd_some h
    refine e_zast rfl g1 (by decide) (xnm_no rfl) ?_
    replace h := xlt_b h
    refine e_iinc (y := 1) rfl rfl rfl (by decide) (xnm_no rfl) ?_
    refine e_goto (t := 12) rfl rfl rfl ?_
    exact xlfV h
set_option maxRecDepth 4000 in
theorem bX12_laysClasses_144_33_i (v1 : Nat) (v2 : Int32) (m : xmm) {z : xmm} (h : (if (64 : Int32) ≤ v2 then some m else xgd (xinb 64 v2) (if (m.1 162 (v2).toNatClampNeg) = 0 then xgd (!(Nat.beq v1 1999)) ((fX12_isArrow v1 (v2 / (8 : Int32)) (v2 - v2 / (8 : Int32) * (8 : Int32)) m).bind fun (w3 : Int32 × xmm) => if w3.1 = 0 then bX12_laysClasses_144_33 v1 (v2 + (1 : Int32)) w3.2 else (fX12_laysClass_144 v1 v2 w3.2).bind fun (w5 : xmm) => xlt (xwi w5 144 32 ((w5.1 144 32) + (1 : Int32))) fun (m7 : xmm) => (fX12_isOdd_144 m7).bind fun (w8 : Int32 × xmm) => if w8.1 = 0 then bX12_laysClasses_144_101 v1 v2 (0 : Int32) w8.2 else xlt (xwi w8.2 144 33 ((w8.2.1 144 33) + (1 : Int32))) fun (m10 : xmm) => bX12_laysClasses_144_101 v1 v2 (0 : Int32) m10) else bX12_laysClasses_144_33 v1 (v2 + (1 : Int32)) m)) = some z) : bX12_laysClasses_144_33 v1 v2 m = some z := by
  refine xstV ?_
  show xT 205 4 33 [(0, .ref 144), (1, .ref v1), (2, .int v2)] [] m (none, z)
  refine e_iload_n rfl rfl (xnm_no rfl) ?_
  refine e_bipush (x := 64) rfl (by decide) (xnm_no rfl) ?_
  refine e_icmp_ge (t := 133) rfl rfl (xnm_no rfl) (xnm_no rfl) h (fun h => ?_) (fun h => ?_)
  · cases h
    exact e_retV rfl rfl
  · refine e_aload_n rfl rfl rfl (xnm_no rfl) ?_
    refine e_getR (r := 162) rfl rfl rfl rfl rfl (xnm_no rfl) ?_
    refine e_iload_n rfl rfl (xnm_no rfl) ?_
    obtain ⟨g1, h⟩ := xgd_some h
    refine e_bald rfl (xor2 g1) (xnm_no rfl) ?_
    refine e_if_ne (t := 127) rfl rfl (xnm_no rfl) (xnm_no rfl) h (fun h => ?_) (fun h => ?_)
    · refine e_iinc (y := 1) rfl rfl rfl (by decide) (xnm_no rfl) ?_
      refine e_goto (t := 33) rfl rfl rfl ?_
      exact xlfV h
    · obtain ⟨g2, h⟩ := xgd_some h
      refine e_aload_n rfl rfl (xnb g2) (xnm_no rfl) ?_
      refine e_iload_n rfl rfl (xnm_no rfl) ?_
      refine e_bipush (x := 8) rfl (by decide) (xnm_no rfl) ?_
      refine e_idiv rfl (by decide) (xnm_no rfl) ?_
      refine e_iload_n rfl rfl (xnm_no rfl) ?_
      refine e_bipush (x := 8) rfl (by decide) (xnm_no rfl) ?_
      refine e_irem rfl (by decide) (xnm_no rfl) ?_
      obtain ⟨w3, hw4, h⟩ := xbd_some h
      refine e_cIS (hc := hw4) (rest := []) rfl rfl rfl rfl rfl rfl rfl rfl (xnm_no rfl) ?_
      refine e_if_ne (t := 66) rfl rfl (xnm_no rfl) (xnm_no rfl) h (fun h => ?_) (fun h => ?_)
      · refine e_aload_n rfl rfl rfl (xnm_no rfl) ?_
        refine e_aload_n rfl rfl (xnb g2) (xnm_no rfl) ?_
        refine e_iload_n rfl rfl (xnm_no rfl) ?_
        obtain ⟨w5, hw6, h⟩ := xbd_some h
        refine e_cVV (hc := hw6) (rest := []) rfl rfl rfl rfl rfl rfl rfl rfl (xnm_no rfl) ?_
        refine e_aload_n rfl rfl rfl (xnm_no rfl) ?_
        refine e_dup rfl rfl (xnm_no rfl) ?_
        refine e_getI rfl rfl rfl rfl (xnm_no rfl) ?_
        refine e_iconst (x := 1) rfl (by decide) (xnm_no rfl) ?_
        refine e_iadd rfl (xnm_no rfl) ?_
        refine e_putI rfl rfl rfl rfl (xnm_no rfl) ?_
        replace h := xlt_b h
        refine e_aload_n rfl rfl rfl (xnm_no rfl) ?_
        obtain ⟨w8, hw9, h⟩ := xbd_some h
        refine e_cIV (hc := hw9) (rest := []) rfl rfl rfl rfl rfl rfl rfl rfl (xnm_no rfl) ?_
        refine e_if_eq (t := 99) rfl rfl (xnm_no rfl) (xnm_no rfl) h (fun h => ?_) (fun h => ?_)
        · refine e_iconst (x := 0) rfl (by decide) (xnm_no rfl) ?_
          refine e_istore_n rfl rfl rfl ?_
          exact xlfV h
        · refine e_aload_n rfl rfl rfl (xnm_no rfl) ?_
          refine e_dup rfl rfl (xnm_no rfl) ?_
          refine e_getI rfl rfl rfl rfl (xnm_no rfl) ?_
          refine e_iconst (x := 1) rfl (by decide) (xnm_no rfl) ?_
          refine e_iadd rfl (xnm_no rfl) ?_
          refine e_putI rfl rfl rfl rfl (xnm_no rfl) ?_
          replace h := xlt_b h
          refine e_iconst (x := 0) rfl (by decide) (xnm_no rfl) ?_
          refine e_istore_n rfl rfl rfl ?_
          exact xlfV h
      · refine e_goto (t := 127) rfl rfl (xnm_no rfl) ?_
        refine e_iinc (y := 1) rfl rfl rfl (by decide) (xnm_no rfl) ?_
        refine e_goto (t := 33) rfl rfl rfl ?_
        exact xlfV h
set_option maxRecDepth 4000 in
theorem bX12_laysClasses_144_101_i (v1 : Nat) (v2 : Int32) (v3 : Int32) (m : xmm) {z : xmm} (h : (if (m.1 144 31) ≤ v3 then bX12_laysClasses_144_33 v1 (v2 + (1 : Int32)) m else xgd (xinb 64 v3) (xgd (xinb 64 (m.1 160 (v3).toNatClampNeg)) (xlt (xwi m 162 ((m.1 160 (v3).toNatClampNeg)).toNatClampNeg (1 : Int32)) fun (m3 : xmm) => bX12_laysClasses_144_101 v1 v2 (v3 + (1 : Int32)) m3))) = some z) : bX12_laysClasses_144_101 v1 v2 v3 m = some z := by
  refine xstV ?_
  show xT 205 4 101 [(0, .ref 144), (1, .ref v1), (2, .int v2), (3, .int v3)] [] m (none, z)
  refine e_iload_n rfl rfl (xnm_no rfl) ?_
  refine e_aload_n rfl rfl rfl (xnm_no rfl) ?_
  refine e_getI rfl rfl rfl rfl (xnm_no rfl) ?_
  refine e_icmp_ge (t := 127) rfl rfl (xnm_no rfl) (xnm_no rfl) h (fun h => ?_) (fun h => ?_)
  · refine e_iinc (y := 1) rfl rfl rfl (by decide) (xnm_no rfl) ?_
    refine e_goto (t := 33) rfl rfl rfl ?_
    exact xlfV h
  · refine e_aload_n rfl rfl rfl (xnm_no rfl) ?_
    refine e_getR (r := 162) rfl rfl rfl rfl rfl (xnm_no rfl) ?_
    refine e_aload_n rfl rfl rfl (xnm_no rfl) ?_
    refine e_getR (r := 160) rfl rfl rfl rfl rfl (xnm_no rfl) ?_
    refine e_iload_n rfl rfl (xnm_no rfl) ?_
    obtain ⟨g1, h⟩ := xgd_some h
    refine e_iald rfl g1 (xnm_no rfl) ?_
    refine e_iconst (x := 1) rfl (by decide) (xnm_no rfl) ?_
    obtain ⟨g2, h⟩ := xgd_some h
    refine e_zast rfl g2 (by decide) (xnm_no rfl) ?_
    replace h := xlt_b h
    refine e_iinc (y := 1) rfl rfl rfl (by decide) (xnm_no rfl) ?_
    refine e_goto (t := 101) rfl rfl rfl ?_
    exact xlfV h
set_option maxRecDepth 4000 in
theorem fX12_isOrdered_144_i (v1 : Nat) (m : xmm) {z : Int32 × xmm} (h : (xgd (!(Nat.beq v1 1999)) ((fX12_laysClasses_144 v1 m).bind fun (w2 : xmm) => if (w2.1 144 33) = 0 then some ((1 : Int32), w2) else some ((0 : Int32), w2))) = some z) : fX12_isOrdered_144 v1 m = some z := by
  refine xstI ?_
  show xT 206 5 0 [(0, .ref 144), (1, .ref v1)] [] m (some (.int z.1), z.2)
  refine e_aload_n rfl rfl rfl (xnm_no rfl) ?_
  obtain ⟨g1, h⟩ := xgd_some h
  refine e_aload_n rfl rfl (xnb g1) (xnm_no rfl) ?_
  obtain ⟨w2, hw3, h⟩ := xbd_some h
  refine e_cVV (hc := hw3) (rest := []) rfl rfl rfl rfl rfl rfl rfl rfl (xnm_no rfl) ?_
  refine e_aload_n rfl rfl rfl (xnm_no rfl) ?_
  refine e_getI rfl rfl rfl rfl (xnm_no rfl) ?_
  refine e_if_ne (t := 16) rfl rfl (xnm_no rfl) (xnm_no rfl) h (fun h => ?_) (fun h => ?_)
  · refine e_iconst (x := 0) rfl (by decide) (xnm_no rfl) ?_
    cases h
    exact e_retI rfl (by decide)
  · refine e_iconst (x := 1) rfl (by decide) (xnm_no rfl) ?_
    refine e_goto (t := 17) rfl rfl (xnm_no rfl) ?_
    cases h
    exact e_retI rfl (by decide)
set_option maxRecDepth 4000 in
theorem fX12_leastLeft_144_i (m : xmm) {z : Int32 × xmm} (h : (bX12_leastLeft_144_2 (0 : Int32) m) = some z) : fX12_leastLeft_144 m = some z := by
  refine xstI ?_
  show xT 210 1 0 [(0, .ref 144)] [] m (some (.int z.1), z.2)
  refine e_iconst (x := 0) rfl (by decide) (xnm_no rfl) ?_
  refine e_istore_n rfl rfl rfl ?_
  exact xlfI h
set_option maxRecDepth 4000 in
theorem bX12_leastLeft_144_2_i (v1 : Int32) (m : xmm) {z : Int32 × xmm} (h : (if (8 : Int32) ≤ v1 then some ((-1 : Int32), m) else bX12_leastLeft_144_12 v1 (v1 + (1 : Int32)) m) = some z) : bX12_leastLeft_144_2 v1 m = some z := by
  refine xstI ?_
  show xT 210 1 2 [(0, .ref 144), (1, .int v1)] [] m (some (.int z.1), z.2)
  refine e_iload_n rfl rfl (xnm_no rfl) ?_
  refine e_bipush (x := 8) rfl (by decide) (xnm_no rfl) ?_
  refine e_icmp_ge (t := 50) rfl rfl (xnm_no rfl) (xnm_no rfl) h (fun h => ?_) (fun h => ?_)
  · refine e_iconst (x := -1) rfl (by decide) (xnm_no rfl) ?_
    cases h
    exact e_retI rfl rfl
  · refine e_iload_n rfl rfl (xnm_no rfl) ?_
    refine e_iconst (x := 1) rfl (by decide) (xnm_no rfl) ?_
    refine e_iadd rfl (xnm_no rfl) ?_
    refine e_istore_n rfl rfl rfl ?_
    exact xlfI h
set_option maxRecDepth 4000 in
theorem bX12_leastLeft_144_12_i (v1 : Int32) (v2 : Int32) (m : xmm) {z : Int32 × xmm} (h : (if (8 : Int32) ≤ v2 then bX12_leastLeft_144_2 (v1 + (1 : Int32)) m else xgd (xinb 9 v1) ((fX12_has (m.1 163 (v1).toNatClampNeg) v2 m).bind fun (w2 : Int32 × xmm) => if w2.1 = 0 then bX12_leastLeft_144_12 v1 (v2 + (1 : Int32)) w2.2 else some ((((8 : Int32) * v1) + v2), w2.2))) = some z) : bX12_leastLeft_144_12 v1 v2 m = some z := by
  refine xstI ?_
  show xT 210 1 12 [(0, .ref 144), (1, .int v1), (2, .int v2)] [] m (some (.int z.1), z.2)
  refine e_iload_n rfl rfl (xnm_no rfl) ?_
  refine e_bipush (x := 8) rfl (by decide) (xnm_no rfl) ?_
  refine e_icmp_ge (t := 44) rfl rfl (xnm_no rfl) (xnm_no rfl) h (fun h => ?_) (fun h => ?_)
  · refine e_iinc (y := 1) rfl rfl rfl (by decide) (xnm_no rfl) ?_
    refine e_goto (t := 2) rfl rfl rfl ?_
    exact xlfI h
  · refine e_aload_n rfl rfl rfl (xnm_no rfl) ?_
    refine e_getR (r := 163) rfl rfl rfl rfl rfl (xnm_no rfl) ?_
    refine e_iload_n rfl rfl (xnm_no rfl) ?_
    obtain ⟨g1, h⟩ := xgd_some h
    refine e_iald rfl g1 (xnm_no rfl) ?_
    refine e_iload_n rfl rfl (xnm_no rfl) ?_
    obtain ⟨w2, hw3, h⟩ := xbd_some h
    refine e_cIS (hc := hw3) (rest := []) rfl rfl rfl rfl rfl rfl rfl rfl (xnm_no rfl) ?_
    refine e_if_eq (t := 38) rfl rfl (xnm_no rfl) (xnm_no rfl) h (fun h => ?_) (fun h => ?_)
    · refine e_iinc (y := 1) rfl rfl rfl (by decide) (xnm_no rfl) ?_
      refine e_goto (t := 12) rfl rfl rfl ?_
      exact xlfI h
    · refine e_bipush (x := 8) rfl (by decide) (xnm_no rfl) ?_
      refine e_iload_n rfl rfl (xnm_no rfl) ?_
      refine e_imul rfl (xnm_no rfl) ?_
      refine e_iload_n rfl rfl (xnm_no rfl) ?_
      refine e_iadd rfl (xnm_no rfl) ?_
      cases h
      exact e_retI rfl rfl
set_option maxRecDepth 4000 in
theorem fX12_laysArrows_144_i (v1 : Nat) (v2 : Int32) (m : xmm) {z : xmm} (h : (xgd (!(Nat.beq v1 1999)) ((fX12_copies v1 163 m).bind fun (w2 : xmm) => xlt (xwi w2 144 39 (0 : Int32)) fun (m4 : xmm) => bX12_laysArrows_144_15 v2 (0 : Int32) m4)) = some z) : fX12_laysArrows_144 v1 v2 m = some z := by
  refine xstV ?_
  show xT 209 4 0 [(0, .ref 144), (1, .ref v1), (2, .int v2)] [] m (none, z)
  obtain ⟨g1, h⟩ := xgd_some h
  refine e_aload_n rfl rfl (xnb g1) (xnm_no rfl) ?_
  refine e_aload_n rfl rfl rfl (xnm_no rfl) ?_
  refine e_getR (r := 163) rfl rfl rfl rfl rfl (xnm_no rfl) ?_
  obtain ⟨w2, hw3, h⟩ := xbd_some h
  refine e_cVS (hc := hw3) (rest := []) rfl rfl rfl rfl rfl rfl rfl rfl (xnm_no rfl) ?_
  refine e_aload_n rfl rfl rfl (xnm_no rfl) ?_
  refine e_iconst (x := 0) rfl (by decide) (xnm_no rfl) ?_
  refine e_putI rfl rfl rfl rfl (xnm_no rfl) ?_
  replace h := xlt_b h
  refine e_iconst (x := 0) rfl (by decide) (xnm_no rfl) ?_
  refine e_istore_n rfl rfl rfl ?_
  exact xlfV h
set_option maxRecDepth 4000 in
theorem bX12_laysArrows_144_15_i (v2 : Int32) (v3 : Int32) (m : xmm) {z : xmm} (h : (if (8 : Int32) ≤ v3 then (fX12_leastLeft_144 m).bind fun (w1 : Int32 × xmm) => bX12_laysArrows_144_46 v2 w1.1 w1.2 else xgd (xinb 8 v3) (xlt (xwi m 164 (v3).toNatClampNeg (0 : Int32)) fun (m4 : xmm) => xlt (xwi m4 165 (v3).toNatClampNeg (0 : Int32)) fun (m5 : xmm) => bX12_laysArrows_144_15 v2 (v3 + (1 : Int32)) m5)) = some z) : bX12_laysArrows_144_15 v2 v3 m = some z := by
  refine xstV ?_
  show xT 209 4 15 [(0, .ref 144), (2, .int v2), (3, .int v3)] [] m (none, z)
  refine e_iload_n rfl rfl (xnm_no rfl) ?_
  refine e_bipush (x := 8) rfl (by decide) (xnm_no rfl) ?_
  refine e_icmp_ge (t := 41) rfl rfl (xnm_no rfl) (xnm_no rfl) h (fun h => ?_) (fun h => ?_)
  · refine e_aload_n rfl rfl rfl (xnm_no rfl) ?_
    obtain ⟨w1, hw2, h⟩ := xbd_some h
    refine e_cIV (hc := hw2) (rest := []) rfl rfl rfl rfl rfl rfl rfl rfl (xnm_no rfl) ?_
    refine e_istore_n rfl rfl rfl ?_
    exact xlfV h
  · refine e_aload_n rfl rfl rfl (xnm_no rfl) ?_
    refine e_getR (r := 164) rfl rfl rfl rfl rfl (xnm_no rfl) ?_
    refine e_iload_n rfl rfl (xnm_no rfl) ?_
    refine e_iconst (x := 0) rfl (by decide) (xnm_no rfl) ?_
    obtain ⟨g3, h⟩ := xgd_some h
    refine e_iast rfl g3 (xnm_no rfl) ?_
    replace h := xlt_b h
    refine e_aload_n rfl rfl rfl (xnm_no rfl) ?_
    refine e_getR (r := 165) rfl rfl rfl rfl rfl (xnm_no rfl) ?_
    refine e_iload_n rfl rfl (xnm_no rfl) ?_
    refine e_iconst (x := 0) rfl (by decide) (xnm_no rfl) ?_
    refine e_iast rfl g3 (xnm_no rfl) ?_
    replace h := xlt_b h
    refine e_iinc (y := 1) rfl rfl rfl (by decide) (xnm_no rfl) ?_
    refine e_goto (t := 15) rfl rfl rfl ?_
    exact xlfV h
set_option maxRecDepth 4000 in
theorem bX12_laysArrows_144_46_i (v2 : Int32) (v3 : Int32) (m : xmm) {z : xmm} (h : (if v3 < 0 then some m else if (m.1 144 39) = 0 then if v2 = 0 then (fX12_laysClass_144 163 v3 m).bind fun (w3 : xmm) => bX12_laysArrows_144_80 v2 (0 : Int32) w3 else (fX12_turned v3 m).bind fun (w5 : Int32 × xmm) => (fX12_laysClass_144 163 w5.1 w5.2).bind fun (w7 : xmm) => bX12_laysArrows_144_80 v2 (0 : Int32) w7 else (fX12_laysClass_144 163 v3 m).bind fun (w1 : xmm) => bX12_laysArrows_144_80 v2 (0 : Int32) w1) = some z) : bX12_laysArrows_144_46 v2 v3 m = some z := by
  refine xstV ?_
  show xT 209 4 46 [(0, .ref 144), (2, .int v2), (3, .int v3)] [] m (none, z)
  refine e_iload_n rfl rfl (xnm_no rfl) ?_
  refine e_if_lt (t := 282) rfl rfl (xnm_no rfl) (xnm_no rfl) h (fun h => ?_) (fun h => ?_)
  · cases h
    exact e_retV rfl rfl
  · refine e_aload_n rfl rfl rfl (xnm_no rfl) ?_
    refine e_aload_n rfl rfl rfl (xnm_no rfl) ?_
    refine e_getR (r := 163) rfl rfl rfl rfl rfl (xnm_no rfl) ?_
    refine e_aload_n rfl rfl rfl (xnm_no rfl) ?_
    refine e_getI rfl rfl rfl rfl (xnm_no rfl) ?_
    refine e_if_ne (t := 73) rfl rfl (xnm_no rfl) (xnm_no rfl) h (fun h => ?_) (fun h => ?_)
    · refine e_iload_n rfl rfl (xnm_no rfl) ?_
      obtain ⟨w1, hw2, h⟩ := xbd_some h
      refine e_cVV (hc := hw2) (rest := []) rfl rfl rfl rfl rfl rfl rfl rfl (xnm_no rfl) ?_
      refine e_iconst (x := 0) rfl (by decide) (xnm_no rfl) ?_
      refine e_istore rfl rfl rfl ?_
      exact xlfV h
    · refine e_iload_n rfl rfl (xnm_no rfl) ?_
      refine e_if_eq (t := 73) rfl rfl (xnm_no rfl) (xnm_no rfl) h (fun h => ?_) (fun h => ?_)
      · refine e_iload_n rfl rfl (xnm_no rfl) ?_
        obtain ⟨w3, hw4, h⟩ := xbd_some h
        refine e_cVV (hc := hw4) (rest := []) rfl rfl rfl rfl rfl rfl rfl rfl (xnm_no rfl) ?_
        refine e_iconst (x := 0) rfl (by decide) (xnm_no rfl) ?_
        refine e_istore rfl rfl rfl ?_
        exact xlfV h
      · refine e_iload_n rfl rfl (xnm_no rfl) ?_
        obtain ⟨w5, hw6, h⟩ := xbd_some h
        refine e_cIS (hc := hw6) (rest := [.ref 163, .ref 144]) rfl rfl rfl rfl rfl rfl rfl rfl (xnm_no rfl) ?_
        refine e_goto (t := 74) rfl rfl (xnm_no rfl) ?_
        obtain ⟨w7, hw8, h⟩ := xbd_some h
        refine e_cVV (hc := hw8) (rest := []) rfl rfl rfl rfl rfl rfl rfl rfl (xnm_no rfl) ?_
        refine e_iconst (x := 0) rfl (by decide) (xnm_no rfl) ?_
        refine e_istore rfl rfl rfl ?_
        exact xlfV h
set_option maxRecDepth 4000 in
theorem bX12_laysArrows_144_80_i (v2 : Int32) (v4 : Int32) (m : xmm) {z : xmm} (h : (if (m.1 144 31) ≤ v4 then bX12_laysArrows_144_185 v2 (0 : Int32) m else xgd (xinb 64 v4) (xlt ((m.1 160 (v4).toNatClampNeg) - (m.1 160 (v4).toNatClampNeg) / (8 : Int32) * (8 : Int32)) fun (x2 : Int32) => xgd (xinb 8 ((m.1 160 (v4).toNatClampNeg) / (8 : Int32))) (xlt (xwi m 164 (((m.1 160 (v4).toNatClampNeg) / (8 : Int32))).toNatClampNeg ((m.1 164 (((m.1 160 (v4).toNatClampNeg) / (8 : Int32))).toNatClampNeg) ||| ((1 : Int32) <<< (x2 &&& 31)))) fun (m4 : xmm) => xgd (xinb 8 x2) (xlt (xwi m4 165 (x2).toNatClampNeg ((m4.1 165 (x2).toNatClampNeg) ||| ((1 : Int32) <<< (((m.1 160 (v4).toNatClampNeg) / (8 : Int32)) &&& 31)))) fun (m6 : xmm) => xgd (xinb 64 (m6.1 160 (v4).toNatClampNeg)) (xlt (xwi m6 166 ((m6.1 160 (v4).toNatClampNeg)).toNatClampNeg (m6.1 144 39)) fun (m8 : xmm) => (fX12_turned (m8.1 160 (v4).toNatClampNeg) m8).bind fun (w9 : Int32 × xmm) => xgd (xinb 64 w9.1) (xlt (xwi w9.2 166 (w9.1).toNatClampNeg (w9.2.1 144 39)) fun (m12 : xmm) => bX12_laysArrows_144_80 v2 (v4 + (1 : Int32)) m12)))))) = some z) : bX12_laysArrows_144_80 v2 v4 m = some z := by
  refine xstV ?_
  show xT 209 4 80 [(0, .ref 144), (2, .int v2), (4, .int v4)] [] m (none, z)
  refine e_iload rfl rfl (xnm_no rfl) ?_
  refine e_aload_n rfl rfl rfl (xnm_no rfl) ?_
  refine e_getI rfl rfl rfl rfl (xnm_no rfl) ?_
  refine e_icmp_ge (t := 182) rfl rfl (xnm_no rfl) (xnm_no rfl) h (fun h => ?_) (fun h => ?_)
  · refine e_iconst (x := 0) rfl (by decide) (xnm_no rfl) ?_
    refine e_istore rfl rfl rfl ?_
    exact xlfV h
  · refine e_aload_n rfl rfl rfl (xnm_no rfl) ?_
    refine e_getR (r := 160) rfl rfl rfl rfl rfl (xnm_no rfl) ?_
    refine e_iload rfl rfl (xnm_no rfl) ?_
    obtain ⟨g1, h⟩ := xgd_some h
    refine e_iald rfl g1 (xnm_no rfl) ?_
    refine e_bipush (x := 8) rfl (by decide) (xnm_no rfl) ?_
    refine e_idiv rfl (by decide) (xnm_no rfl) ?_
    refine e_istore rfl rfl (xnm_no rfl) ?_
    refine e_aload_n rfl rfl rfl (xnm_no rfl) ?_
    refine e_getR (r := 160) rfl rfl rfl rfl rfl (xnm_no rfl) ?_
    refine e_iload rfl rfl (xnm_no rfl) ?_
    refine e_iald rfl g1 (xnm_no rfl) ?_
    refine e_bipush (x := 8) rfl (by decide) (xnm_no rfl) ?_
    refine e_irem rfl (by decide) (xnm_no rfl) ?_
    replace h := xlt_b h
    refine e_istore rfl rfl (xnm_no rfl) ?_
    refine e_aload_n rfl rfl rfl (xnm_no rfl) ?_
    refine e_getR (r := 164) rfl rfl rfl rfl rfl (xnm_no rfl) ?_
    refine e_iload rfl rfl (xnm_no rfl) ?_
    refine e_dup2 rfl rfl rfl (xnm_no rfl) ?_
    obtain ⟨g3, h⟩ := xgd_some h
    refine e_iald rfl g3 (xnm_no rfl) ?_
    refine e_iconst (x := 1) rfl (by decide) (xnm_no rfl) ?_
    refine e_iload rfl rfl (xnm_no rfl) ?_
    refine e_ishl rfl (xnm_no rfl) ?_
    refine e_ior rfl (xnm_no rfl) ?_
    refine e_iast rfl g3 (xnm_no rfl) ?_
    replace h := xlt_b h
    refine e_aload_n rfl rfl rfl (xnm_no rfl) ?_
    refine e_getR (r := 165) rfl rfl rfl rfl rfl (xnm_no rfl) ?_
    refine e_iload rfl rfl (xnm_no rfl) ?_
    refine e_dup2 rfl rfl rfl (xnm_no rfl) ?_
    obtain ⟨g5, h⟩ := xgd_some h
    refine e_iald rfl g5 (xnm_no rfl) ?_
    refine e_iconst (x := 1) rfl (by decide) (xnm_no rfl) ?_
    refine e_iload rfl rfl (xnm_no rfl) ?_
    refine e_ishl rfl (xnm_no rfl) ?_
    refine e_ior rfl (xnm_no rfl) ?_
    refine e_iast rfl g5 (xnm_no rfl) ?_
    replace h := xlt_b h
    refine e_aload_n rfl rfl rfl (xnm_no rfl) ?_
    refine e_getR (r := 166) rfl rfl rfl rfl rfl (xnm_no rfl) ?_
    refine e_aload_n rfl rfl rfl (xnm_no rfl) ?_
    refine e_getR (r := 160) rfl rfl rfl rfl rfl (xnm_no rfl) ?_
    refine e_iload rfl rfl (xnm_no rfl) ?_
    refine e_iald rfl g1 (xnm_no rfl) ?_
    refine e_aload_n rfl rfl rfl (xnm_no rfl) ?_
    refine e_getI rfl rfl rfl rfl (xnm_no rfl) ?_
    obtain ⟨g7, h⟩ := xgd_some h
    refine e_iast rfl g7 (xnm_no rfl) ?_
    replace h := xlt_b h
    refine e_aload_n rfl rfl rfl (xnm_no rfl) ?_
    refine e_getR (r := 166) rfl rfl rfl rfl rfl (xnm_no rfl) ?_
    refine e_aload_n rfl rfl rfl (xnm_no rfl) ?_
    refine e_getR (r := 160) rfl rfl rfl rfl rfl (xnm_no rfl) ?_
    refine e_iload rfl rfl (xnm_no rfl) ?_
    refine e_iald rfl g1 (xnm_no rfl) ?_
    obtain ⟨w9, hw10, h⟩ := xbd_some h
    refine e_cIS (hc := hw10) (rest := [.ref 166]) rfl rfl rfl rfl rfl rfl rfl rfl (xnm_no rfl) ?_
    refine e_aload_n rfl rfl rfl (xnm_no rfl) ?_
    refine e_getI rfl rfl rfl rfl (xnm_no rfl) ?_
    obtain ⟨g11, h⟩ := xgd_some h
    refine e_iast rfl g11 (xnm_no rfl) ?_
    replace h := xlt_b h
    refine e_iinc (y := 1) rfl rfl rfl (by decide) (xnm_no rfl) ?_
    refine e_goto (t := 80) rfl rfl rfl ?_
    exact xlfV h
set_option maxRecDepth 4000 in
theorem bX12_laysArrows_144_185_i (v2 : Int32) (v4 : Int32) (m : xmm) {z : xmm} (h : (if (m.1 144 31) ≤ v4 then xlt (xwi m 144 39 ((m.1 144 39) + (1 : Int32))) fun (m1 : xmm) => (fX12_leastLeft_144 m1).bind fun (w2 : Int32 × xmm) => bX12_laysArrows_144_46 v2 w2.1 w2.2 else xgd (xinb 64 v4) (xgd (xinb 9 ((m.1 160 (v4).toNatClampNeg) / (8 : Int32))) (xlt (xwi m 163 (((m.1 160 (v4).toNatClampNeg) / (8 : Int32))).toNatClampNeg ((m.1 163 (((m.1 160 (v4).toNatClampNeg) / (8 : Int32))).toNatClampNeg) &&& (((1 : Int32) <<< (((m.1 160 (v4).toNatClampNeg) - (m.1 160 (v4).toNatClampNeg) / (8 : Int32) * (8 : Int32)) &&& 31)) ^^^ (-1 : Int32)))) fun (m6 : xmm) => xgd (xinb 9 ((m6.1 160 (v4).toNatClampNeg) - (m6.1 160 (v4).toNatClampNeg) / (8 : Int32) * (8 : Int32))) (xlt (xwi m6 163 (((m6.1 160 (v4).toNatClampNeg) - (m6.1 160 (v4).toNatClampNeg) / (8 : Int32) * (8 : Int32))).toNatClampNeg ((m6.1 163 (((m6.1 160 (v4).toNatClampNeg) - (m6.1 160 (v4).toNatClampNeg) / (8 : Int32) * (8 : Int32))).toNatClampNeg) &&& (((1 : Int32) <<< (((m6.1 160 (v4).toNatClampNeg) / (8 : Int32)) &&& 31)) ^^^ (-1 : Int32)))) fun (m8 : xmm) => bX12_laysArrows_144_185 v2 (v4 + (1 : Int32)) m8)))) = some z) : bX12_laysArrows_144_185 v2 v4 m = some z := by
  refine xstV ?_
  show xT 209 4 185 [(0, .ref 144), (2, .int v2), (4, .int v4)] [] m (none, z)
  refine e_iload rfl rfl (xnm_no rfl) ?_
  refine e_aload_n rfl rfl rfl (xnm_no rfl) ?_
  refine e_getI rfl rfl rfl rfl (xnm_no rfl) ?_
  refine e_icmp_ge (t := 264) rfl rfl (xnm_no rfl) (xnm_no rfl) h (fun h => ?_) (fun h => ?_)
  · refine e_aload_n rfl rfl rfl (xnm_no rfl) ?_
    refine e_dup rfl rfl (xnm_no rfl) ?_
    refine e_getI rfl rfl rfl rfl (xnm_no rfl) ?_
    refine e_iconst (x := 1) rfl (by decide) (xnm_no rfl) ?_
    refine e_iadd rfl (xnm_no rfl) ?_
    refine e_putI rfl rfl rfl rfl (xnm_no rfl) ?_
    replace h := xlt_b h
    refine e_aload_n rfl rfl rfl (xnm_no rfl) ?_
    obtain ⟨w2, hw3, h⟩ := xbd_some h
    refine e_cIV (hc := hw3) (rest := []) rfl rfl rfl rfl rfl rfl rfl rfl (xnm_no rfl) ?_
    refine e_istore_n rfl rfl (xnm_no rfl) ?_
    refine e_goto (t := 46) rfl rfl rfl ?_
    exact xlfV h
  · refine e_aload_n rfl rfl rfl (xnm_no rfl) ?_
    refine e_getR (r := 163) rfl rfl rfl rfl rfl (xnm_no rfl) ?_
    refine e_aload_n rfl rfl rfl (xnm_no rfl) ?_
    refine e_getR (r := 160) rfl rfl rfl rfl rfl (xnm_no rfl) ?_
    refine e_iload rfl rfl (xnm_no rfl) ?_
    obtain ⟨g4, h⟩ := xgd_some h
    refine e_iald rfl g4 (xnm_no rfl) ?_
    refine e_bipush (x := 8) rfl (by decide) (xnm_no rfl) ?_
    refine e_idiv rfl (by decide) (xnm_no rfl) ?_
    refine e_dup2 rfl rfl rfl (xnm_no rfl) ?_
    obtain ⟨g5, h⟩ := xgd_some h
    refine e_iald rfl g5 (xnm_no rfl) ?_
    refine e_iconst (x := 1) rfl (by decide) (xnm_no rfl) ?_
    refine e_aload_n rfl rfl rfl (xnm_no rfl) ?_
    refine e_getR (r := 160) rfl rfl rfl rfl rfl (xnm_no rfl) ?_
    refine e_iload rfl rfl (xnm_no rfl) ?_
    refine e_iald rfl g4 (xnm_no rfl) ?_
    refine e_bipush (x := 8) rfl (by decide) (xnm_no rfl) ?_
    refine e_irem rfl (by decide) (xnm_no rfl) ?_
    refine e_ishl rfl (xnm_no rfl) ?_
    refine e_iconst (x := -1) rfl (by decide) (xnm_no rfl) ?_
    refine e_ixor rfl (xnm_no rfl) ?_
    refine e_iand rfl (xnm_no rfl) ?_
    refine e_iast rfl g5 (xnm_no rfl) ?_
    replace h := xlt_b h
    refine e_aload_n rfl rfl rfl (xnm_no rfl) ?_
    refine e_getR (r := 163) rfl rfl rfl rfl rfl (xnm_no rfl) ?_
    refine e_aload_n rfl rfl rfl (xnm_no rfl) ?_
    refine e_getR (r := 160) rfl rfl rfl rfl rfl (xnm_no rfl) ?_
    refine e_iload rfl rfl (xnm_no rfl) ?_
    refine e_iald rfl g4 (xnm_no rfl) ?_
    refine e_bipush (x := 8) rfl (by decide) (xnm_no rfl) ?_
    refine e_irem rfl (by decide) (xnm_no rfl) ?_
    refine e_dup2 rfl rfl rfl (xnm_no rfl) ?_
    obtain ⟨g7, h⟩ := xgd_some h
    refine e_iald rfl g7 (xnm_no rfl) ?_
    refine e_iconst (x := 1) rfl (by decide) (xnm_no rfl) ?_
    refine e_aload_n rfl rfl rfl (xnm_no rfl) ?_
    refine e_getR (r := 160) rfl rfl rfl rfl rfl (xnm_no rfl) ?_
    refine e_iload rfl rfl (xnm_no rfl) ?_
    refine e_iald rfl g4 (xnm_no rfl) ?_
    refine e_bipush (x := 8) rfl (by decide) (xnm_no rfl) ?_
    refine e_idiv rfl (by decide) (xnm_no rfl) ?_
    refine e_ishl rfl (xnm_no rfl) ?_
    refine e_iconst (x := -1) rfl (by decide) (xnm_no rfl) ?_
    refine e_ixor rfl (xnm_no rfl) ?_
    refine e_iand rfl (xnm_no rfl) ?_
    refine e_iast rfl g7 (xnm_no rfl) ?_
    replace h := xlt_b h
    refine e_iinc (y := 1) rfl rfl rfl (by decide) (xnm_no rfl) ?_
    refine e_goto (t := 185) rfl rfl rfl ?_
    exact xlfV h
set_option maxRecDepth 4000 in
theorem fX12_isArrowed_144_i (m : xmm) {z : Int32 × xmm} (h : ((fX12_isOrdered_144 152 m).bind fun (w1 : Int32 × xmm) => if w1.1 = 0 then some ((0 : Int32), w1.2) else if (w1.2.1 152 8) = (1 : Int32) then (fX12_laysArrows_144 152 (1 : Int32) w1.2).bind fun (w5 : xmm) => some ((1 : Int32), w5) else (fX12_laysArrows_144 152 (0 : Int32) w1.2).bind fun (w3 : xmm) => some ((1 : Int32), w3)) = some z) : fX12_isArrowed_144 m = some z := by
  refine xstI ?_
  show xT 211 6 0 [(0, .ref 144)] [] m (some (.int z.1), z.2)
  refine e_aload_n rfl rfl rfl (xnm_no rfl) ?_
  refine e_aload_n rfl rfl rfl (xnm_no rfl) ?_
  refine e_getR (r := 152) rfl rfl rfl rfl rfl (xnm_no rfl) ?_
  obtain ⟨w1, hw2, h⟩ := xbd_some h
  refine e_cIV (hc := hw2) (rest := []) rfl rfl rfl rfl rfl rfl rfl rfl (xnm_no rfl) ?_
  refine e_if_ne (t := 13) rfl rfl (xnm_no rfl) (xnm_no rfl) h (fun h => ?_) (fun h => ?_)
  · refine e_aload_n rfl rfl rfl (xnm_no rfl) ?_
    refine e_aload_n rfl rfl rfl (xnm_no rfl) ?_
    refine e_getR (r := 152) rfl rfl rfl rfl rfl (xnm_no rfl) ?_
    refine e_aload_n rfl rfl rfl (xnm_no rfl) ?_
    refine e_getR (r := 152) rfl rfl rfl rfl rfl (xnm_no rfl) ?_
    refine e_bipush (x := 8) rfl (by decide) (xnm_no rfl) ?_
    refine e_iald rfl (by decide) (xnm_no rfl) ?_
    refine e_iconst (x := 1) rfl (by decide) (xnm_no rfl) ?_
    refine e_icmp_ne (t := 33) rfl rfl (xnm_no rfl) (xnm_no rfl) h (fun h => ?_) (fun h => ?_)
    · refine e_iconst (x := 0) rfl (by decide) (xnm_no rfl) ?_
      obtain ⟨w3, hw4, h⟩ := xbd_some h
      refine e_cVV (hc := hw4) (rest := []) rfl rfl rfl rfl rfl rfl rfl rfl (xnm_no rfl) ?_
      refine e_iconst (x := 1) rfl (by decide) (xnm_no rfl) ?_
      cases h
      exact e_retI rfl (by decide)
    · refine e_iconst (x := 1) rfl (by decide) (xnm_no rfl) ?_
      refine e_goto (t := 34) rfl rfl (xnm_no rfl) ?_
      obtain ⟨w5, hw6, h⟩ := xbd_some h
      refine e_cVV (hc := hw6) (rest := []) rfl rfl rfl rfl rfl rfl rfl rfl (xnm_no rfl) ?_
      refine e_iconst (x := 1) rfl (by decide) (xnm_no rfl) ?_
      cases h
      exact e_retI rfl (by decide)
  · refine e_iconst (x := 0) rfl (by decide) (xnm_no rfl) ?_
    cases h
    exact e_retI rfl (by decide)
