set_option maxRecDepth 4000 in
theorem fX0_stepOf_109_i (v1 : Int32) (m : xmm) {z : Int32 × xmm} (h : (xgd (xinb 64 v1) (some ((m.1 115 (v1).toNatClampNeg), m))) = some z) : fX0_stepOf_109 v1 m = some z := by
  refine xstI ?_
  show xT 4 0 0 [(0, .ref 109), (1, .int v1)] [] m (some (.int z.1), z.2)
  refine e_aload_n rfl rfl rfl (xnm_no rfl) ?_
  refine e_getR (r := 115) rfl rfl rfl rfl rfl (xnm_no rfl) ?_
  refine e_iload_n rfl rfl (xnm_no rfl) ?_
  obtain ⟨g1, h⟩ := xgd_some h
  refine e_iald rfl g1 (xnm_no rfl) ?_
  cases h
  exact e_retI rfl rfl
set_option maxRecDepth 4000 in
theorem fX11_of_0_i (v1 : Int32) (v2 : Int32) (m : xmm) {z : Int32 × xmm} (h : ((fX3_lineAt 10 v1 m).bind fun (w1 : Int32 × xmm) => if w1.1 = (-1 : Int32) then some ((-1 : Int32), w1.2) else if v2 < 0 then some ((-1 : Int32), w1.2) else if v2 ≤ (3 : Int32) then if v2 = 0 then some ((w1.1 / (8 : Int32)), w1.2) else if v2 = (1 : Int32) then some ((w1.1 - w1.1 / (8 : Int32) * (8 : Int32)), w1.2) else (fX11_study_0 w1.2).bind fun (w3 : xmm) => (fX1_isOrdered_97 w3).bind fun (w5 : Int32 × xmm) => if w5.1 = 0 then some ((-2 : Int32), w5.2) else if v2 = (2 : Int32) then (fX0_stepOf_109 w1.1 w5.2).bind fun (w11 : Int32 × xmm) => some (w11.1, w11.2) else (fX0_has_109 w1.1 w5.2).bind fun (w7 : Int32 × xmm) => (fX11_bit w7.1 w7.2).bind fun (w9 : Int32 × xmm) => some (w9.1, w9.2) else some ((-1 : Int32), w1.2)) = some z) : fX11_of_0 v1 v2 m = some z := by
  refine xstI ?_
  show xT 124 6 0 [(0, .ref 0), (1, .int v1), (2, .int v2)] [] m (some (.int z.1), z.2)
  refine e_aload_n rfl rfl rfl (xnm_no rfl) ?_
  refine e_getR (r := 10) rfl rfl rfl rfl rfl (xnm_no rfl) ?_
  refine e_iload_n rfl rfl (xnm_no rfl) ?_
  obtain ⟨w1, hw2, h⟩ := xbd_some h
  refine e_cIV (hc := hw2) (rest := []) rfl rfl rfl rfl rfl rfl rfl rfl (xnm_no rfl) ?_
  refine e_istore_n rfl rfl (xnm_no rfl) ?_
  refine e_iload_n rfl rfl (xnm_no rfl) ?_
  refine e_iconst (x := -1) rfl (by decide) (xnm_no rfl) ?_
  refine e_icmp_eq (t := 23) rfl rfl (xnm_no rfl) (xnm_no rfl) h (fun h => ?_) (fun h => ?_)
  · refine e_iconst (x := -1) rfl (by decide) (xnm_no rfl) ?_
    cases h
    exact e_retI rfl rfl
  · refine e_iload_n rfl rfl (xnm_no rfl) ?_
    refine e_if_lt (t := 23) rfl rfl (xnm_no rfl) (xnm_no rfl) h (fun h => ?_) (fun h => ?_)
    · refine e_iconst (x := -1) rfl (by decide) (xnm_no rfl) ?_
      cases h
      exact e_retI rfl rfl
    · refine e_iload_n rfl rfl (xnm_no rfl) ?_
      refine e_iconst (x := 3) rfl (by decide) (xnm_no rfl) ?_
      refine e_icmp_le (t := 25) rfl rfl (xnm_no rfl) (xnm_no rfl) h (fun h => ?_) (fun h => ?_)
      · refine e_iload_n rfl rfl (xnm_no rfl) ?_
        refine e_if_ne (t := 34) rfl rfl (xnm_no rfl) (xnm_no rfl) h (fun h => ?_) (fun h => ?_)
        · refine e_iload_n rfl rfl (xnm_no rfl) ?_
          refine e_iconst (x := 1) rfl (by decide) (xnm_no rfl) ?_
          refine e_icmp_ne (t := 44) rfl rfl (xnm_no rfl) (xnm_no rfl) h (fun h => ?_) (fun h => ?_)
          · refine e_aload_n rfl rfl rfl (xnm_no rfl) ?_
            obtain ⟨w3, hw4, h⟩ := xbd_some h
            refine e_cVV (hc := hw4) (rest := []) rfl rfl rfl rfl rfl rfl rfl rfl (xnm_no rfl) ?_
            refine e_aload_n rfl rfl rfl (xnm_no rfl) ?_
            refine e_getR (r := 97) rfl rfl rfl rfl rfl (xnm_no rfl) ?_
            obtain ⟨w5, hw6, h⟩ := xbd_some h
            refine e_cIV (hc := hw6) (rest := []) rfl rfl rfl rfl rfl rfl rfl rfl (xnm_no rfl) ?_
            refine e_if_ne (t := 61) rfl rfl (xnm_no rfl) (xnm_no rfl) h (fun h => ?_) (fun h => ?_)
            · refine e_iload_n rfl rfl (xnm_no rfl) ?_
              refine e_iconst (x := 2) rfl (by decide) (xnm_no rfl) ?_
              refine e_icmp_ne (t := 77) rfl rfl (xnm_no rfl) (xnm_no rfl) h (fun h => ?_) (fun h => ?_)
              · refine e_aload_n rfl rfl rfl (xnm_no rfl) ?_
                refine e_getR (r := 109) rfl rfl rfl rfl rfl (xnm_no rfl) ?_
                refine e_iload_n rfl rfl (xnm_no rfl) ?_
                obtain ⟨w7, hw8, h⟩ := xbd_some h
                refine e_cIV (hc := hw8) (rest := []) rfl rfl rfl rfl rfl rfl rfl rfl (xnm_no rfl) ?_
                obtain ⟨w9, hw10, h⟩ := xbd_some h
                refine e_cIS (hc := hw10) (rest := []) rfl rfl rfl rfl rfl rfl rfl rfl (xnm_no rfl) ?_
                cases h
                exact e_retI rfl rfl
              · refine e_aload_n rfl rfl rfl (xnm_no rfl) ?_
                refine e_getR (r := 109) rfl rfl rfl rfl rfl (xnm_no rfl) ?_
                refine e_iload_n rfl rfl (xnm_no rfl) ?_
                obtain ⟨w11, hw12, h⟩ := xbd_some h
                refine e_cIV (hc := hw12) (rest := []) rfl rfl rfl rfl rfl rfl rfl rfl (xnm_no rfl) ?_
                refine e_goto (t := 88) rfl rfl (xnm_no rfl) ?_
                cases h
                exact e_retI rfl rfl
            · refine e_bipush (x := -2) rfl (by decide) (xnm_no rfl) ?_
              cases h
              exact e_retI rfl rfl
          · refine e_iload_n rfl rfl (xnm_no rfl) ?_
            refine e_bipush (x := 8) rfl (by decide) (xnm_no rfl) ?_
            refine e_irem rfl (by decide) (xnm_no rfl) ?_
            cases h
            exact e_retI rfl rfl
        · refine e_iload_n rfl rfl (xnm_no rfl) ?_
          refine e_bipush (x := 8) rfl (by decide) (xnm_no rfl) ?_
          refine e_idiv rfl (by decide) (xnm_no rfl) ?_
          cases h
          exact e_retI rfl rfl
      · refine e_iconst (x := -1) rfl (by decide) (xnm_no rfl) ?_
        cases h
        exact e_retI rfl rfl
set_option maxRecDepth 4000 in
theorem fX3_hasLine_i (v0 : Nat) (v1 : Int32) (v2 : Int32) (m : xmm) {z : Int32 × xmm} (h : (xgd (!(Nat.beq v0 1999)) ((fX3_hasPair v0 v1 v2 m).bind fun (w2 : Int32 × xmm) => xgd (xob v0 3) (if w2.1 = 0 then some ((0 : Int32), w2.2) else xgr (xR0 v0 2) fun r5 => xgd (xia 1 r5 v1) ((fX11_contains (w2.2.1 r5 (v1).toNatClampNeg) v2 w2.2).bind fun (w8 : Int32 × xmm) => if w8.1 = 0 then some ((0 : Int32), w8.2) else some ((1 : Int32), w8.2))))) = some z) : fX3_hasLine v0 v1 v2 m = some z := by
  refine xstI ?_
  show xT 26 2 0 [(0, .ref v0), (1, .int v1), (2, .int v2)] [] m (some (.int z.1), z.2)
  obtain ⟨g1, h⟩ := xgd_some h
  refine e_aload_n rfl rfl (xnb g1) (xnm_no rfl) ?_
  refine e_iload_n rfl rfl (xnm_no rfl) ?_
  refine e_iload_n rfl rfl (xnm_no rfl) ?_
  obtain ⟨w2, hw3, h⟩ := xbd_some h
  obtain ⟨g4, h⟩ := xgd_some h
  refine e_cIV (hc := hw3) (rest := []) rfl rfl rfl rfl rfl (xorb g4) rfl rfl (xnm_no rfl) ?_
  refine e_if_eq (t := 26) rfl rfl (xnm_no rfl) (xnm_no rfl) h (fun h => ?_) (fun h => ?_)
  · refine e_iconst (x := 0) rfl (by decide) (xnm_no rfl) ?_
    cases h
    exact e_retI rfl (by decide)
  · refine e_aload_n rfl rfl (xnb g1) (xnm_no rfl) ?_
    obtain ⟨r5, hr6, h⟩ := xgr_some h
    refine e_getR rfl rfl rfl g4 hr6 (xnm_no rfl) ?_
    refine e_iload_n rfl rfl (xnm_no rfl) ?_
    obtain ⟨g7, h⟩ := xgd_some h
    refine e_iald rfl g7 (xnm_no rfl) ?_
    refine e_iload_n rfl rfl (xnm_no rfl) ?_
    obtain ⟨w8, hw9, h⟩ := xbd_some h
    refine e_cIS (hc := hw9) (rest := []) rfl rfl rfl rfl rfl rfl rfl rfl (xnm_no rfl) ?_
    refine e_if_eq (t := 26) rfl rfl (xnm_no rfl) (xnm_no rfl) h (fun h => ?_) (fun h => ?_)
    · refine e_iconst (x := 0) rfl (by decide) (xnm_no rfl) ?_
      cases h
      exact e_retI rfl (by decide)
    · refine e_iconst (x := 1) rfl (by decide) (xnm_no rfl) ?_
      refine e_goto (t := 27) rfl rfl (xnm_no rfl) ?_
      cases h
      exact e_retI rfl (by decide)
set_option maxRecDepth 4000 in
theorem fX1_sizeOf_97_i (v1 : Int32) (m : xmm) {z : Int32 × xmm} (h : (bX1_sizeOf_97_4 v1 (0 : Int32) (0 : Int32) m) = some z) : fX1_sizeOf_97 v1 m = some z := by
  refine xstI ?_
  show xT 12 0 0 [(0, .ref 97), (1, .int v1)] [] m (some (.int z.1), z.2)
  refine e_iconst (x := 0) rfl (by decide) (xnm_no rfl) ?_
  refine e_istore_n rfl rfl (xnm_no rfl) ?_
  refine e_iconst (x := 0) rfl (by decide) (xnm_no rfl) ?_
  refine e_istore_n rfl rfl rfl ?_
  exact xlfI h
set_option maxRecDepth 4000 in
theorem bX1_sizeOf_97_4_i (v1 : Int32) (v2 : Int32) (v3 : Int32) (m : xmm) {z : Int32 × xmm} (h : (if (64 : Int32) ≤ v3 then some (v2, m) else xgd (xinb 64 v3) (xgd (xinb 64 v1) (if (m.1 102 (v3).toNatClampNeg) = (m.1 102 (v1).toNatClampNeg) then bX1_sizeOf_97_4 v1 (v2 + (1 : Int32)) (v3 + (1 : Int32)) m else bX1_sizeOf_97_4 v1 v2 (v3 + (1 : Int32)) m))) = some z) : bX1_sizeOf_97_4 v1 v2 v3 m = some z := by
  refine xstI ?_
  show xT 12 0 4 [(0, .ref 97), (1, .int v1), (2, .int v2), (3, .int v3)] [] m (some (.int z.1), z.2)
  refine e_iload_n rfl rfl (xnm_no rfl) ?_
  refine e_bipush (x := 64) rfl (by decide) (xnm_no rfl) ?_
  refine e_icmp_ge (t := 34) rfl rfl (xnm_no rfl) (xnm_no rfl) h (fun h => ?_) (fun h => ?_)
  · refine e_iload_n rfl rfl (xnm_no rfl) ?_
    cases h
    exact e_retI rfl rfl
  · refine e_aload_n rfl rfl rfl (xnm_no rfl) ?_
    refine e_getR (r := 102) rfl rfl rfl rfl rfl (xnm_no rfl) ?_
    refine e_iload_n rfl rfl (xnm_no rfl) ?_
    obtain ⟨g1, h⟩ := xgd_some h
    refine e_iald rfl g1 (xnm_no rfl) ?_
    refine e_aload_n rfl rfl rfl (xnm_no rfl) ?_
    refine e_getR (r := 102) rfl rfl rfl rfl rfl (xnm_no rfl) ?_
    refine e_iload_n rfl rfl (xnm_no rfl) ?_
    obtain ⟨g2, h⟩ := xgd_some h
    refine e_iald rfl g2 (xnm_no rfl) ?_
    refine e_icmp_ne (t := 28) rfl rfl (xnm_no rfl) (xnm_no rfl) h (fun h => ?_) (fun h => ?_)
    · refine e_iinc (y := 1) rfl rfl rfl (by decide) (xnm_no rfl) ?_
      refine e_goto (t := 4) rfl rfl rfl ?_
      exact xlfI h
    · refine e_iinc (y := 1) rfl rfl rfl (by decide) (xnm_no rfl) ?_
      refine e_iinc (y := 1) rfl rfl rfl (by decide) (xnm_no rfl) ?_
      refine e_goto (t := 4) rfl rfl rfl ?_
      exact xlfI h
set_option maxRecDepth 4000 in
theorem fX1_linesOf_97_i (v1 : Int32) (m : xmm) {z : Int32 × xmm} (h : (bX1_linesOf_97_7 v1 (0 : Int32) (0 : Int32) (0 : Int32) m) = some z) : fX1_linesOf_97 v1 m = some z := by
  refine xstI ?_
  show xT 14 2 0 [(0, .ref 97), (1, .int v1)] [] m (some (.int z.1), z.2)
  refine e_iconst (x := 0) rfl (by decide) (xnm_no rfl) ?_
  refine e_istore_n rfl rfl (xnm_no rfl) ?_
  refine e_iconst (x := 0) rfl (by decide) (xnm_no rfl) ?_
  refine e_istore_n rfl rfl (xnm_no rfl) ?_
  refine e_iconst (x := 0) rfl (by decide) (xnm_no rfl) ?_
  refine e_istore rfl rfl rfl ?_
  exact xlfI h
set_option maxRecDepth 4000 in
theorem bX1_linesOf_97_7_i (v1 : Int32) (v2 : Int32) (v3 : Int32) (v4 : Int32) (m : xmm) {z : Int32 × xmm} (h : (if (64 : Int32) ≤ v4 then some (v2, m) else (fX11_against v4 m).bind fun (w1 : Int32 × xmm) => if w1.1 ≤ v4 then bX1_linesOf_97_7 v1 v2 v3 (v4 + (1 : Int32)) w1.2 else (fX11_isArrow 101 v4 w1.2).bind fun (w3 : Int32 × xmm) => if w3.1 = 0 then bX1_linesOf_97_7 v1 v2 v3 (v4 + (1 : Int32)) w3.2 else xgd (xinb 64 v4) (xgd (xinb 64 v1) (if (w3.2.1 102 (v4).toNatClampNeg) = (w3.2.1 102 (v1).toNatClampNeg) then bX1_linesOf_97_71 v1 v2 v3 v4 w3.2 else (fX11_against v4 w3.2).bind fun (w7 : Int32 × xmm) => xgd (xinb 64 w7.1) (if (w7.2.1 102 (w7.1).toNatClampNeg) = (w7.2.1 102 (v1).toNatClampNeg) then bX1_linesOf_97_71 v1 v2 v3 v4 w7.2 else bX1_linesOf_97_7 v1 v2 (v3 + (1 : Int32)) (v4 + (1 : Int32)) w7.2)))) = some z) : bX1_linesOf_97_7 v1 v2 v3 v4 m = some z := by
  refine xstI ?_
  show xT 14 2 7 [(0, .ref 97), (1, .int v1), (2, .int v2), (3, .int v3), (4, .int v4)] [] m (some (.int z.1), z.2)
  refine e_iload rfl rfl (xnm_no rfl) ?_
  refine e_bipush (x := 64) rfl (by decide) (xnm_no rfl) ?_
  refine e_icmp_ge (t := 86) rfl rfl (xnm_no rfl) (xnm_no rfl) h (fun h => ?_) (fun h => ?_)
  · refine e_iload_n rfl rfl (xnm_no rfl) ?_
    cases h
    exact e_retI rfl rfl
  · refine e_iload rfl rfl (xnm_no rfl) ?_
    refine e_iload rfl rfl (xnm_no rfl) ?_
    obtain ⟨w1, hw2, h⟩ := xbd_some h
    refine e_cIS (hc := hw2) (rest := [.int _]) rfl rfl rfl rfl rfl rfl rfl rfl (xnm_no rfl) ?_
    refine e_icmp_ge (t := 80) rfl rfl (xnm_no rfl) (xnm_no rfl) h (fun h => ?_) (fun h => ?_)
    · refine e_iinc (y := 1) rfl rfl rfl (by decide) (xnm_no rfl) ?_
      refine e_goto (t := 7) rfl rfl rfl ?_
      exact xlfI h
    · refine e_aload_n rfl rfl rfl (xnm_no rfl) ?_
      refine e_getR (r := 101) rfl rfl rfl rfl rfl (xnm_no rfl) ?_
      refine e_iload rfl rfl (xnm_no rfl) ?_
      obtain ⟨w3, hw4, h⟩ := xbd_some h
      refine e_cIS (hc := hw4) (rest := []) rfl rfl rfl rfl rfl rfl rfl rfl (xnm_no rfl) ?_
      refine e_if_eq (t := 80) rfl rfl (xnm_no rfl) (xnm_no rfl) h (fun h => ?_) (fun h => ?_)
      · refine e_iinc (y := 1) rfl rfl rfl (by decide) (xnm_no rfl) ?_
        refine e_goto (t := 7) rfl rfl rfl ?_
        exact xlfI h
      · refine e_aload_n rfl rfl rfl (xnm_no rfl) ?_
        refine e_getR (r := 102) rfl rfl rfl rfl rfl (xnm_no rfl) ?_
        refine e_iload rfl rfl (xnm_no rfl) ?_
        obtain ⟨g5, h⟩ := xgd_some h
        refine e_iald rfl g5 (xnm_no rfl) ?_
        refine e_aload_n rfl rfl rfl (xnm_no rfl) ?_
        refine e_getR (r := 102) rfl rfl rfl rfl rfl (xnm_no rfl) ?_
        refine e_iload_n rfl rfl (xnm_no rfl) ?_
        obtain ⟨g6, h⟩ := xgd_some h
        refine e_iald rfl g6 (xnm_no rfl) ?_
        refine e_icmp_eq (t := 71) rfl rfl rfl (xnm_no rfl) h (fun h => ?_) (fun h => ?_)
        · exact xlfI h
        · refine e_aload_n rfl rfl rfl (xnm_no rfl) ?_
          refine e_getR (r := 102) rfl rfl rfl rfl rfl (xnm_no rfl) ?_
          refine e_iload rfl rfl (xnm_no rfl) ?_
          obtain ⟨w7, hw8, h⟩ := xbd_some h
          refine e_cIS (hc := hw8) (rest := [.ref 102]) rfl rfl rfl rfl rfl rfl rfl rfl (xnm_no rfl) ?_
          obtain ⟨g9, h⟩ := xgd_some h
          refine e_iald rfl g9 (xnm_no rfl) ?_
          refine e_aload_n rfl rfl rfl (xnm_no rfl) ?_
          refine e_getR (r := 102) rfl rfl rfl rfl rfl (xnm_no rfl) ?_
          refine e_iload_n rfl rfl (xnm_no rfl) ?_
          refine e_iald rfl g6 (xnm_no rfl) ?_
          refine e_icmp_ne (t := 77) rfl rfl (xnm_no rfl) rfl h (fun h => ?_) (fun h => ?_)
          · refine e_iinc (y := 1) rfl rfl rfl (by decide) (xnm_no rfl) ?_
            refine e_iinc (y := 1) rfl rfl rfl (by decide) (xnm_no rfl) ?_
            refine e_goto (t := 7) rfl rfl rfl ?_
            exact xlfI h
          · exact xlfI h
set_option maxRecDepth 4000 in
theorem bX1_linesOf_97_71_i (v1 : Int32) (v2 : Int32) (v3 : Int32) (v4 : Int32) (m : xmm) {z : Int32 × xmm} (h : (bX1_linesOf_97_7 v1 (v2 ||| ((1 : Int32) <<< (v3 &&& 31))) (v3 + (1 : Int32)) (v4 + (1 : Int32)) m) = some z) : bX1_linesOf_97_71 v1 v2 v3 v4 m = some z := by
  refine xstI ?_
  show xT 14 2 71 [(0, .ref 97), (1, .int v1), (2, .int v2), (3, .int v3), (4, .int v4)] [] m (some (.int z.1), z.2)
  refine e_iload_n rfl rfl (xnm_no rfl) ?_
  refine e_iconst (x := 1) rfl (by decide) (xnm_no rfl) ?_
  refine e_iload_n rfl rfl (xnm_no rfl) ?_
  refine e_ishl rfl (xnm_no rfl) ?_
  refine e_ior rfl (xnm_no rfl) ?_
  refine e_istore_n rfl rfl (xnm_no rfl) ?_
  refine e_iinc (y := 1) rfl rfl rfl (by decide) (xnm_no rfl) ?_
  refine e_iinc (y := 1) rfl rfl rfl (by decide) (xnm_no rfl) ?_
  refine e_goto (t := 7) rfl rfl rfl ?_
  exact xlfI h
set_option maxRecDepth 4000 in
theorem fX1_walkLength_97_i (v1 : Int32) (m : xmm) {z : Int32 × xmm} (h : ((fX1_isOdd_97 v1 m).bind fun (w1 : Int32 × xmm) => if w1.1 = 0 then some ((0 : Int32), w1.2) else (fX11_against v1 w1.2).bind fun (w3 : Int32 × xmm) => (fX6_spread_98 101 w3.1 w3.2).bind fun (w5 : xmm) => xgd (xinb 64 v1) (some (((w5.1 99 (v1).toNatClampNeg) + (1 : Int32)), w5))) = some z) : fX1_walkLength_97 v1 m = some z := by
  refine xstI ?_
  show xT 15 3 0 [(0, .ref 97), (1, .int v1)] [] m (some (.int z.1), z.2)
  refine e_aload_n rfl rfl rfl (xnm_no rfl) ?_
  refine e_iload_n rfl rfl (xnm_no rfl) ?_
  obtain ⟨w1, hw2, h⟩ := xbd_some h
  refine e_cIV (hc := hw2) (rest := []) rfl rfl rfl rfl rfl rfl rfl rfl (xnm_no rfl) ?_
  refine e_if_ne (t := 10) rfl rfl (xnm_no rfl) (xnm_no rfl) h (fun h => ?_) (fun h => ?_)
  · refine e_aload_n rfl rfl rfl (xnm_no rfl) ?_
    refine e_getR (r := 98) rfl rfl rfl rfl rfl (xnm_no rfl) ?_
    refine e_aload_n rfl rfl rfl (xnm_no rfl) ?_
    refine e_getR (r := 101) rfl rfl rfl rfl rfl (xnm_no rfl) ?_
    refine e_iload_n rfl rfl (xnm_no rfl) ?_
    obtain ⟨w3, hw4, h⟩ := xbd_some h
    refine e_cIS (hc := hw4) (rest := [.ref 101, .ref 98]) rfl rfl rfl rfl rfl rfl rfl rfl (xnm_no rfl) ?_
    obtain ⟨w5, hw6, h⟩ := xbd_some h
    refine e_cVV (hc := hw6) (rest := []) rfl rfl rfl rfl rfl rfl rfl rfl (xnm_no rfl) ?_
    refine e_aload_n rfl rfl rfl (xnm_no rfl) ?_
    refine e_getR (r := 98) rfl rfl rfl rfl rfl (xnm_no rfl) ?_
    refine e_getR (r := 99) rfl rfl rfl rfl rfl (xnm_no rfl) ?_
    refine e_iload_n rfl rfl (xnm_no rfl) ?_
    obtain ⟨g7, h⟩ := xgd_some h
    refine e_iald rfl g7 (xnm_no rfl) ?_
    refine e_iconst (x := 1) rfl (by decide) (xnm_no rfl) ?_
    refine e_iadd rfl (xnm_no rfl) ?_
    cases h
    exact e_retI rfl rfl
  · refine e_iconst (x := 0) rfl (by decide) (xnm_no rfl) ?_
    cases h
    exact e_retI rfl rfl
set_option maxRecDepth 4000 in
theorem fX11_klass_0_i (v1 : Int32) (v2 : Int32) (v3 : Int32) (m : xmm) {z : Int32 × xmm} (h : ((fX3_hasLine 10 v1 v2 m).bind fun (w1 : Int32 × xmm) => if w1.1 = 0 then some ((-1 : Int32), w1.2) else (fX11_study_0 w1.2).bind fun (w3 : xmm) => (fX11_arrowFrom v1 v2 w3).bind fun (w5 : Int32 × xmm) => if v3 = 0 then (fX1_sizeOf_97 w5.1 w5.2).bind fun (w8 : Int32 × xmm) => some (w8.1, w8.2) else if v3 = 1 then (fX1_isOdd_97 w5.1 w5.2).bind fun (w11 : Int32 × xmm) => (fX11_bit w11.1 w11.2).bind fun (w13 : Int32 × xmm) => some (w13.1, w13.2) else if v3 = 2 then (fX1_linesOf_97 w5.1 w5.2).bind fun (w16 : Int32 × xmm) => some (w16.1, w16.2) else if v3 = 3 then (fX1_walkLength_97 w5.1 w5.2).bind fun (w19 : Int32 × xmm) => some (w19.1, w19.2) else some ((-1 : Int32), w5.2)) = some z) : fX11_klass_0 v1 v2 v3 m = some z := by
  refine xstI ?_
  show xT 128 6 0 [(0, .ref 0), (1, .int v1), (2, .int v2), (3, .int v3)] [] m (some (.int z.1), z.2)
  refine e_aload_n rfl rfl rfl (xnm_no rfl) ?_
  refine e_getR (r := 10) rfl rfl rfl rfl rfl (xnm_no rfl) ?_
  refine e_iload_n rfl rfl (xnm_no rfl) ?_
  refine e_iload_n rfl rfl (xnm_no rfl) ?_
  obtain ⟨w1, hw2, h⟩ := xbd_some h
  refine e_cIV (hc := hw2) (rest := []) rfl rfl rfl rfl rfl rfl rfl rfl (xnm_no rfl) ?_
  refine e_if_ne (t := 14) rfl rfl (xnm_no rfl) (xnm_no rfl) h (fun h => ?_) (fun h => ?_)
  · refine e_aload_n rfl rfl rfl (xnm_no rfl) ?_
    obtain ⟨w3, hw4, h⟩ := xbd_some h
    refine e_cVV (hc := hw4) (rest := []) rfl rfl rfl rfl rfl rfl rfl rfl (xnm_no rfl) ?_
    refine e_iload_n rfl rfl (xnm_no rfl) ?_
    refine e_iload_n rfl rfl (xnm_no rfl) ?_
    obtain ⟨w5, hw6, h⟩ := xbd_some h
    refine e_cIS (hc := hw6) (rest := []) rfl rfl rfl rfl rfl rfl rfl rfl (xnm_no rfl) ?_
    refine e_istore rfl rfl (xnm_no rfl) ?_
    refine e_iload_n rfl rfl (xnm_no rfl) ?_
    by_cases c7 : v3 = 0
    · rw [if_pos c7] at h
      refine e_sw (t := 56) (o := 30) rfl (by decide) (xsw_p c7) rfl (xnm_no rfl) ?_
      refine e_aload_n rfl rfl rfl (xnm_no rfl) ?_
      refine e_getR (r := 97) rfl rfl rfl rfl rfl (xnm_no rfl) ?_
      refine e_iload rfl rfl (xnm_no rfl) ?_
      obtain ⟨w8, hw9, h⟩ := xbd_some h
      refine e_cIV (hc := hw9) (rest := []) rfl rfl rfl rfl rfl rfl rfl rfl (xnm_no rfl) ?_
      cases h
      exact e_retI rfl rfl
    · rw [if_neg c7] at h
      by_cases c10 : v3 = 1
      · rw [if_pos c10] at h
        refine e_sw (t := 66) (o := 40) rfl (by decide) (xsw_n c7 (xsw_p c10)) rfl (xnm_no rfl) ?_
        refine e_aload_n rfl rfl rfl (xnm_no rfl) ?_
        refine e_getR (r := 97) rfl rfl rfl rfl rfl (xnm_no rfl) ?_
        refine e_iload rfl rfl (xnm_no rfl) ?_
        obtain ⟨w11, hw12, h⟩ := xbd_some h
        refine e_cIV (hc := hw12) (rest := []) rfl rfl rfl rfl rfl rfl rfl rfl (xnm_no rfl) ?_
        obtain ⟨w13, hw14, h⟩ := xbd_some h
        refine e_cIS (hc := hw14) (rest := []) rfl rfl rfl rfl rfl rfl rfl rfl (xnm_no rfl) ?_
        cases h
        exact e_retI rfl rfl
      · rw [if_neg c10] at h
        by_cases c15 : v3 = 2
        · rw [if_pos c15] at h
          refine e_sw (t := 79) (o := 53) rfl (by decide) (xsw_n c7 (xsw_n c10 (xsw_p c15))) rfl (xnm_no rfl) ?_
          refine e_aload_n rfl rfl rfl (xnm_no rfl) ?_
          refine e_getR (r := 97) rfl rfl rfl rfl rfl (xnm_no rfl) ?_
          refine e_iload rfl rfl (xnm_no rfl) ?_
          obtain ⟨w16, hw17, h⟩ := xbd_some h
          refine e_cIV (hc := hw17) (rest := []) rfl rfl rfl rfl rfl rfl rfl rfl (xnm_no rfl) ?_
          cases h
          exact e_retI rfl rfl
        · rw [if_neg c15] at h
          by_cases c18 : v3 = 3
          · rw [if_pos c18] at h
            refine e_sw (t := 89) (o := 63) rfl (by decide) (xsw_n c7 (xsw_n c10 (xsw_n c15 (xsw_p c18)))) rfl (xnm_no rfl) ?_
            refine e_aload_n rfl rfl rfl (xnm_no rfl) ?_
            refine e_getR (r := 97) rfl rfl rfl rfl rfl (xnm_no rfl) ?_
            refine e_iload rfl rfl (xnm_no rfl) ?_
            obtain ⟨w19, hw20, h⟩ := xbd_some h
            refine e_cIV (hc := hw20) (rest := []) rfl rfl rfl rfl rfl rfl rfl rfl (xnm_no rfl) ?_
            cases h
            exact e_retI rfl rfl
          · rw [if_neg c18] at h
            refine e_sw (t := 99) (o := 73) rfl (by decide) (xsw_n c7 (xsw_n c10 (xsw_n c15 (xsw_n c18 xsw_d)))) rfl (xnm_no rfl) ?_
            refine e_iconst (x := -1) rfl (by decide) (xnm_no rfl) ?_
            cases h
            exact e_retI rfl rfl
  · refine e_iconst (x := -1) rfl (by decide) (xnm_no rfl) ?_
    cases h
    exact e_retI rfl rfl
set_option maxRecDepth 4000 in
theorem fX6_compels_i (v0 : Nat) (v1 : Int32) (v2 : Int32) (m : xmm) {z : Int32 × xmm} (h : (if (v1 / (8 : Int32)) = (v2 / (8 : Int32)) then if (v1 - v1 / (8 : Int32) * (8 : Int32)) = (v2 - v2 / (8 : Int32) * (8 : Int32)) then some ((0 : Int32), m) else xgd (!(Nat.beq v0 1999)) (xgd (xia 1 v0 (v1 / (8 : Int32))) ((fX11_contains (m.1 v0 ((v1 / (8 : Int32))).toNatClampNeg) (v2 - v2 / (8 : Int32) * (8 : Int32)) m).bind fun (w10 : Int32 × xmm) => if w10.1 = 0 then some ((0 : Int32), w10.2) else xgd (xia 1 v0 (v1 - v1 / (8 : Int32) * (8 : Int32))) ((fX11_contains (w10.2.1 v0 ((v1 - v1 / (8 : Int32) * (8 : Int32))).toNatClampNeg) (v2 - v2 / (8 : Int32) * (8 : Int32)) w10.2).bind fun (w13 : Int32 × xmm) => if w13.1 = 0 then some ((1 : Int32), w13.2) else some ((0 : Int32), w13.2)))) else if (v1 - v1 / (8 : Int32) * (8 : Int32)) = (v2 - v2 / (8 : Int32) * (8 : Int32)) then xgd (!(Nat.beq v0 1999)) (xgd (xia 1 v0 (v1 - v1 / (8 : Int32) * (8 : Int32))) ((fX11_contains (m.1 v0 ((v1 - v1 / (8 : Int32) * (8 : Int32))).toNatClampNeg) (v2 / (8 : Int32)) m).bind fun (w3 : Int32 × xmm) => if w3.1 = 0 then some ((0 : Int32), w3.2) else xgd (xia 1 v0 (v1 / (8 : Int32))) ((fX11_contains (w3.2.1 v0 ((v1 / (8 : Int32))).toNatClampNeg) (v2 / (8 : Int32)) w3.2).bind fun (w6 : Int32 × xmm) => if w6.1 = 0 then some ((1 : Int32), w6.2) else some ((0 : Int32), w6.2)))) else some ((0 : Int32), m)) = some z) : fX6_compels v0 v1 v2 m = some z := by
  refine xstI ?_
  show xT 65 1 0 [(0, .ref v0), (1, .int v1), (2, .int v2)] [] m (some (.int z.1), z.2)
  refine e_iload_n rfl rfl (xnm_no rfl) ?_
  refine e_bipush (x := 8) rfl (by decide) (xnm_no rfl) ?_
  refine e_idiv rfl (by decide) (xnm_no rfl) ?_
  refine e_istore_n rfl rfl (xnm_no rfl) ?_
  refine e_iload_n rfl rfl (xnm_no rfl) ?_
  refine e_bipush (x := 8) rfl (by decide) (xnm_no rfl) ?_
  refine e_irem rfl (by decide) (xnm_no rfl) ?_
  refine e_istore rfl rfl (xnm_no rfl) ?_
  refine e_iload_n rfl rfl (xnm_no rfl) ?_
  refine e_bipush (x := 8) rfl (by decide) (xnm_no rfl) ?_
  refine e_idiv rfl (by decide) (xnm_no rfl) ?_
  refine e_istore rfl rfl (xnm_no rfl) ?_
  refine e_iload_n rfl rfl (xnm_no rfl) ?_
  refine e_bipush (x := 8) rfl (by decide) (xnm_no rfl) ?_
  refine e_irem rfl (by decide) (xnm_no rfl) ?_
  refine e_istore rfl rfl (xnm_no rfl) ?_
  refine e_iload_n rfl rfl (xnm_no rfl) ?_
  refine e_iload rfl rfl (xnm_no rfl) ?_
  refine e_icmp_ne (t := 65) rfl rfl (xnm_no rfl) (xnm_no rfl) h (fun h => ?_) (fun h => ?_)
  · refine e_iload rfl rfl (xnm_no rfl) ?_
    refine e_iload rfl rfl (xnm_no rfl) ?_
    refine e_icmp_ne (t := 99) rfl rfl (xnm_no rfl) (xnm_no rfl) h (fun h => ?_) (fun h => ?_)
    · refine e_iconst (x := 0) rfl (by decide) (xnm_no rfl) ?_
      cases h
      exact e_retI rfl (by decide)
    · obtain ⟨g1, h⟩ := xgd_some h
      refine e_aload_n rfl rfl (xnb g1) (xnm_no rfl) ?_
      refine e_iload rfl rfl (xnm_no rfl) ?_
      obtain ⟨g2, h⟩ := xgd_some h
      refine e_iald rfl g2 (xnm_no rfl) ?_
      refine e_iload rfl rfl (xnm_no rfl) ?_
      obtain ⟨w3, hw4, h⟩ := xbd_some h
      refine e_cIS (hc := hw4) (rest := []) rfl rfl rfl rfl rfl rfl rfl rfl (xnm_no rfl) ?_
      refine e_if_eq (t := 99) rfl rfl (xnm_no rfl) (xnm_no rfl) h (fun h => ?_) (fun h => ?_)
      · refine e_iconst (x := 0) rfl (by decide) (xnm_no rfl) ?_
        cases h
        exact e_retI rfl (by decide)
      · refine e_aload_n rfl rfl (xnb g1) (xnm_no rfl) ?_
        refine e_iload_n rfl rfl (xnm_no rfl) ?_
        obtain ⟨g5, h⟩ := xgd_some h
        refine e_iald rfl g5 (xnm_no rfl) ?_
        refine e_iload rfl rfl (xnm_no rfl) ?_
        obtain ⟨w6, hw7, h⟩ := xbd_some h
        refine e_cIS (hc := hw7) (rest := []) rfl rfl rfl rfl rfl rfl rfl rfl (xnm_no rfl) ?_
        refine e_if_ne (t := 99) rfl rfl (xnm_no rfl) (xnm_no rfl) h (fun h => ?_) (fun h => ?_)
        · refine e_iconst (x := 0) rfl (by decide) (xnm_no rfl) ?_
          cases h
          exact e_retI rfl (by decide)
        · refine e_iconst (x := 1) rfl (by decide) (xnm_no rfl) ?_
          refine e_goto (t := 100) rfl rfl (xnm_no rfl) ?_
          cases h
          exact e_retI rfl (by decide)
  · refine e_iload rfl rfl (xnm_no rfl) ?_
    refine e_iload rfl rfl (xnm_no rfl) ?_
    refine e_icmp_eq (t := 63) rfl rfl (xnm_no rfl) (xnm_no rfl) h (fun h => ?_) (fun h => ?_)
    · refine e_iconst (x := 0) rfl (by decide) (xnm_no rfl) ?_
      cases h
      exact e_retI rfl (by decide)
    · obtain ⟨g8, h⟩ := xgd_some h
      refine e_aload_n rfl rfl (xnb g8) (xnm_no rfl) ?_
      refine e_iload_n rfl rfl (xnm_no rfl) ?_
      obtain ⟨g9, h⟩ := xgd_some h
      refine e_iald rfl g9 (xnm_no rfl) ?_
      refine e_iload rfl rfl (xnm_no rfl) ?_
      obtain ⟨w10, hw11, h⟩ := xbd_some h
      refine e_cIS (hc := hw11) (rest := []) rfl rfl rfl rfl rfl rfl rfl rfl (xnm_no rfl) ?_
      refine e_if_eq (t := 63) rfl rfl (xnm_no rfl) (xnm_no rfl) h (fun h => ?_) (fun h => ?_)
      · refine e_iconst (x := 0) rfl (by decide) (xnm_no rfl) ?_
        cases h
        exact e_retI rfl (by decide)
      · refine e_aload_n rfl rfl (xnb g8) (xnm_no rfl) ?_
        refine e_iload rfl rfl (xnm_no rfl) ?_
        obtain ⟨g12, h⟩ := xgd_some h
        refine e_iald rfl g12 (xnm_no rfl) ?_
        refine e_iload rfl rfl (xnm_no rfl) ?_
        obtain ⟨w13, hw14, h⟩ := xbd_some h
        refine e_cIS (hc := hw14) (rest := []) rfl rfl rfl rfl rfl rfl rfl rfl (xnm_no rfl) ?_
        refine e_if_ne (t := 63) rfl rfl (xnm_no rfl) (xnm_no rfl) h (fun h => ?_) (fun h => ?_)
        · refine e_iconst (x := 0) rfl (by decide) (xnm_no rfl) ?_
          cases h
          exact e_retI rfl (by decide)
        · refine e_iconst (x := 1) rfl (by decide) (xnm_no rfl) ?_
          refine e_goto (t := 64) rfl rfl (xnm_no rfl) ?_
          cases h
          exact e_retI rfl (by decide)
set_option maxRecDepth 4000 in
theorem fX11_forces_0_i (v1 : Int32) (v2 : Int32) (v3 : Int32) (v4 : Int32) (m : xmm) {z : Int32 × xmm} (h : ((fX3_hasLine 10 v1 v2 m).bind fun (w1 : Int32 × xmm) => if w1.1 = 0 then some ((-1 : Int32), w1.2) else (fX3_hasLine 10 v3 v4 w1.2).bind fun (w3 : Int32 × xmm) => if w3.1 = 0 then some ((-1 : Int32), w3.2) else (fX11_arrowFrom v1 v2 w3.2).bind fun (w5 : Int32 × xmm) => (fX11_arrowFrom v3 v4 w5.2).bind fun (w7 : Int32 × xmm) => (fX6_compels 11 w5.1 w7.1 w7.2).bind fun (w9 : Int32 × xmm) => (fX11_bit w9.1 w9.2).bind fun (w11 : Int32 × xmm) => some (w11.1, w11.2)) = some z) : fX11_forces_0 v1 v2 v3 v4 m = some z := by
  refine xstI ?_
  show xT 127 3 0 [(0, .ref 0), (1, .int v1), (2, .int v2), (3, .int v3), (4, .int v4)] [] m (some (.int z.1), z.2)
  refine e_aload_n rfl rfl rfl (xnm_no rfl) ?_
  refine e_getR (r := 10) rfl rfl rfl rfl rfl (xnm_no rfl) ?_
  refine e_iload_n rfl rfl (xnm_no rfl) ?_
  refine e_iload_n rfl rfl (xnm_no rfl) ?_
  obtain ⟨w1, hw2, h⟩ := xbd_some h
  refine e_cIV (hc := hw2) (rest := []) rfl rfl rfl rfl rfl rfl rfl rfl (xnm_no rfl) ?_
  refine e_if_eq (t := 25) rfl rfl (xnm_no rfl) (xnm_no rfl) h (fun h => ?_) (fun h => ?_)
  · refine e_iconst (x := -1) rfl (by decide) (xnm_no rfl) ?_
    cases h
    exact e_retI rfl rfl
  · refine e_aload_n rfl rfl rfl (xnm_no rfl) ?_
    refine e_getR (r := 10) rfl rfl rfl rfl rfl (xnm_no rfl) ?_
    refine e_iload_n rfl rfl (xnm_no rfl) ?_
    refine e_iload rfl rfl (xnm_no rfl) ?_
    obtain ⟨w3, hw4, h⟩ := xbd_some h
    refine e_cIV (hc := hw4) (rest := []) rfl rfl rfl rfl rfl rfl rfl rfl (xnm_no rfl) ?_
    refine e_if_ne (t := 27) rfl rfl (xnm_no rfl) (xnm_no rfl) h (fun h => ?_) (fun h => ?_)
    · refine e_aload_n rfl rfl rfl (xnm_no rfl) ?_
      refine e_getR (r := 10) rfl rfl rfl rfl rfl (xnm_no rfl) ?_
      refine e_getR (r := 11) rfl rfl rfl rfl rfl (xnm_no rfl) ?_
      refine e_iload_n rfl rfl (xnm_no rfl) ?_
      refine e_iload_n rfl rfl (xnm_no rfl) ?_
      obtain ⟨w5, hw6, h⟩ := xbd_some h
      refine e_cIS (hc := hw6) (rest := [.ref 11]) rfl rfl rfl rfl rfl rfl rfl rfl (xnm_no rfl) ?_
      refine e_iload_n rfl rfl (xnm_no rfl) ?_
      refine e_iload rfl rfl (xnm_no rfl) ?_
      obtain ⟨w7, hw8, h⟩ := xbd_some h
      refine e_cIS (hc := hw8) (rest := [.int _, .ref 11]) rfl rfl rfl rfl rfl rfl rfl rfl (xnm_no rfl) ?_
      obtain ⟨w9, hw10, h⟩ := xbd_some h
      refine e_cIS (hc := hw10) (rest := []) rfl rfl rfl rfl rfl rfl rfl rfl (xnm_no rfl) ?_
      obtain ⟨w11, hw12, h⟩ := xbd_some h
      refine e_cIS (hc := hw12) (rest := []) rfl rfl rfl rfl rfl rfl rfl rfl (xnm_no rfl) ?_
      cases h
      exact e_retI rfl rfl
    · refine e_iconst (x := -1) rfl (by decide) (xnm_no rfl) ?_
      cases h
      exact e_retI rfl rfl
set_option maxRecDepth 4000 in
theorem fX1_nextOfWalk_97_i (v1 : Int32) (m : xmm) {z : Int32 × xmm} (h : (bX1_nextOfWalk_97_2 v1 (0 : Int32) m) = some z) : fX1_nextOfWalk_97 v1 m = some z := by
  refine xstI ?_
  show xT 17 2 0 [(0, .ref 97), (1, .int v1)] [] m (some (.int z.1), z.2)
  refine e_iconst (x := 0) rfl (by decide) (xnm_no rfl) ?_
  refine e_istore_n rfl rfl rfl ?_
  exact xlfI h
set_option maxRecDepth 4000 in
theorem bX1_nextOfWalk_97_2_i (v1 : Int32) (v2 : Int32) (m : xmm) {z : Int32 × xmm} (h : (if (64 : Int32) ≤ v2 then some (v1, m) else (fX11_isArrow 101 v2 m).bind fun (w1 : Int32 × xmm) => if w1.1 = 0 then bX1_nextOfWalk_97_2 v1 (v2 + (1 : Int32)) w1.2 else xgd (xinb 64 v2) (xgd (xinb 64 v1) (if (w1.2.1 99 (v2).toNatClampNeg) = ((w1.2.1 99 (v1).toNatClampNeg) - (1 : Int32)) then (fX6_compels 101 v1 v2 w1.2).bind fun (w5 : Int32 × xmm) => if w5.1 = 0 then bX1_nextOfWalk_97_2 v1 (v2 + (1 : Int32)) w5.2 else some (v2, w5.2) else bX1_nextOfWalk_97_2 v1 (v2 + (1 : Int32)) w1.2))) = some z) : bX1_nextOfWalk_97_2 v1 v2 m = some z := by
  refine xstI ?_
  show xT 17 2 2 [(0, .ref 97), (1, .int v1), (2, .int v2)] [] m (some (.int z.1), z.2)
  refine e_iload_n rfl rfl (xnm_no rfl) ?_
  refine e_bipush (x := 64) rfl (by decide) (xnm_no rfl) ?_
  refine e_icmp_ge (t := 62) rfl rfl (xnm_no rfl) (xnm_no rfl) h (fun h => ?_) (fun h => ?_)
  · refine e_iload_n rfl rfl (xnm_no rfl) ?_
    cases h
    exact e_retI rfl rfl
  · refine e_aload_n rfl rfl rfl (xnm_no rfl) ?_
    refine e_getR (r := 101) rfl rfl rfl rfl rfl (xnm_no rfl) ?_
    refine e_iload_n rfl rfl (xnm_no rfl) ?_
    obtain ⟨w1, hw2, h⟩ := xbd_some h
    refine e_cIS (hc := hw2) (rest := []) rfl rfl rfl rfl rfl rfl rfl rfl (xnm_no rfl) ?_
    refine e_if_eq (t := 56) rfl rfl (xnm_no rfl) (xnm_no rfl) h (fun h => ?_) (fun h => ?_)
    · refine e_iinc (y := 1) rfl rfl rfl (by decide) (xnm_no rfl) ?_
      refine e_goto (t := 2) rfl rfl rfl ?_
      exact xlfI h
    · refine e_aload_n rfl rfl rfl (xnm_no rfl) ?_
      refine e_getR (r := 98) rfl rfl rfl rfl rfl (xnm_no rfl) ?_
      refine e_getR (r := 99) rfl rfl rfl rfl rfl (xnm_no rfl) ?_
      refine e_iload_n rfl rfl (xnm_no rfl) ?_
      obtain ⟨g3, h⟩ := xgd_some h
      refine e_iald rfl g3 (xnm_no rfl) ?_
      refine e_aload_n rfl rfl rfl (xnm_no rfl) ?_
      refine e_getR (r := 98) rfl rfl rfl rfl rfl (xnm_no rfl) ?_
      refine e_getR (r := 99) rfl rfl rfl rfl rfl (xnm_no rfl) ?_
      refine e_iload_n rfl rfl (xnm_no rfl) ?_
      obtain ⟨g4, h⟩ := xgd_some h
      refine e_iald rfl g4 (xnm_no rfl) ?_
      refine e_iconst (x := 1) rfl (by decide) (xnm_no rfl) ?_
      refine e_isub rfl (xnm_no rfl) ?_
      refine e_icmp_ne (t := 56) rfl rfl (xnm_no rfl) (xnm_no rfl) h (fun h => ?_) (fun h => ?_)
      · refine e_iinc (y := 1) rfl rfl rfl (by decide) (xnm_no rfl) ?_
        refine e_goto (t := 2) rfl rfl rfl ?_
        exact xlfI h
      · refine e_aload_n rfl rfl rfl (xnm_no rfl) ?_
        refine e_getR (r := 101) rfl rfl rfl rfl rfl (xnm_no rfl) ?_
        refine e_iload_n rfl rfl (xnm_no rfl) ?_
        refine e_iload_n rfl rfl (xnm_no rfl) ?_
        obtain ⟨w5, hw6, h⟩ := xbd_some h
        refine e_cIS (hc := hw6) (rest := []) rfl rfl rfl rfl rfl rfl rfl rfl (xnm_no rfl) ?_
        refine e_if_eq (t := 56) rfl rfl (xnm_no rfl) (xnm_no rfl) h (fun h => ?_) (fun h => ?_)
        · refine e_iinc (y := 1) rfl rfl rfl (by decide) (xnm_no rfl) ?_
          refine e_goto (t := 2) rfl rfl rfl ?_
          exact xlfI h
        · refine e_iload_n rfl rfl (xnm_no rfl) ?_
          cases h
          exact e_retI rfl rfl
set_option maxRecDepth 4000 in
theorem fX1_walkAt_97_i (v1 : Int32) (v2 : Int32) (m : xmm) {z : Int32 × xmm} (h : (if v2 < 0 then some ((-1 : Int32), m) else (fX1_walkLength_97 v1 m).bind fun (w1 : Int32 × xmm) => if v2 < w1.1 then bX1_walkAt_97_20 v2 v1 (0 : Int32) w1.2 else some ((-1 : Int32), w1.2)) = some z) : fX1_walkAt_97 v1 v2 m = some z := by
  refine xstI ?_
  show xT 16 4 0 [(0, .ref 97), (1, .int v1), (2, .int v2)] [] m (some (.int z.1), z.2)
  refine e_iload_n rfl rfl (xnm_no rfl) ?_
  refine e_if_lt (t := 13) rfl rfl (xnm_no rfl) (xnm_no rfl) h (fun h => ?_) (fun h => ?_)
  · refine e_iconst (x := -1) rfl (by decide) (xnm_no rfl) ?_
    cases h
    exact e_retI rfl rfl
  · refine e_iload_n rfl rfl (xnm_no rfl) ?_
    refine e_aload_n rfl rfl rfl (xnm_no rfl) ?_
    refine e_iload_n rfl rfl (xnm_no rfl) ?_
    obtain ⟨w1, hw2, h⟩ := xbd_some h
    refine e_cIV (hc := hw2) (rest := [.int _]) rfl rfl rfl rfl rfl rfl rfl rfl (xnm_no rfl) ?_
    refine e_icmp_lt (t := 15) rfl rfl (xnm_no rfl) (xnm_no rfl) h (fun h => ?_) (fun h => ?_)
    · refine e_iload_n rfl rfl (xnm_no rfl) ?_
      refine e_istore_n rfl rfl (xnm_no rfl) ?_
      refine e_iconst (x := 0) rfl (by decide) (xnm_no rfl) ?_
      refine e_istore rfl rfl rfl ?_
      exact xlfI h
    · refine e_iconst (x := -1) rfl (by decide) (xnm_no rfl) ?_
      cases h
      exact e_retI rfl rfl
set_option maxRecDepth 4000 in
theorem bX1_walkAt_97_20_i (v2 : Int32) (v3 : Int32) (v4 : Int32) (m : xmm) {z : Int32 × xmm} (h : (if v2 ≤ v4 then some (v3, m) else if (64 : Int32) ≤ v4 then some (v3, m) else (fX1_nextOfWalk_97 v3 m).bind fun (w1 : Int32 × xmm) => bX1_walkAt_97_20 v2 w1.1 (v4 + (1 : Int32)) w1.2) = some z) : bX1_walkAt_97_20 v2 v3 v4 m = some z := by
  refine xstI ?_
  show xT 16 4 20 [(0, .ref 97), (2, .int v2), (3, .int v3), (4, .int v4)] [] m (some (.int z.1), z.2)
  refine e_iload rfl rfl (xnm_no rfl) ?_
  refine e_iload_n rfl rfl (xnm_no rfl) ?_
  refine e_icmp_ge (t := 45) rfl rfl (xnm_no rfl) (xnm_no rfl) h (fun h => ?_) (fun h => ?_)
  · refine e_iload_n rfl rfl (xnm_no rfl) ?_
    cases h
    exact e_retI rfl rfl
  · refine e_iload rfl rfl (xnm_no rfl) ?_
    refine e_bipush (x := 64) rfl (by decide) (xnm_no rfl) ?_
    refine e_icmp_ge (t := 45) rfl rfl (xnm_no rfl) (xnm_no rfl) h (fun h => ?_) (fun h => ?_)
    · refine e_iload_n rfl rfl (xnm_no rfl) ?_
      cases h
      exact e_retI rfl rfl
    · refine e_aload_n rfl rfl rfl (xnm_no rfl) ?_
      refine e_iload_n rfl rfl (xnm_no rfl) ?_
      obtain ⟨w1, hw2, h⟩ := xbd_some h
      refine e_cIV (hc := hw2) (rest := []) rfl rfl rfl rfl rfl rfl rfl rfl (xnm_no rfl) ?_
      refine e_istore_n rfl rfl (xnm_no rfl) ?_
      refine e_iinc (y := 1) rfl rfl rfl (by decide) (xnm_no rfl) ?_
      refine e_goto (t := 20) rfl rfl rfl ?_
      exact xlfI h
set_option maxRecDepth 4000 in
theorem fX11_walk_0_i (v1 : Int32) (v2 : Int32) (v3 : Int32) (m : xmm) {z : Int32 × xmm} (h : ((fX3_hasLine 10 v1 v2 m).bind fun (w1 : Int32 × xmm) => if w1.1 = 0 then some ((-1 : Int32), w1.2) else (fX11_study_0 w1.2).bind fun (w3 : xmm) => (fX11_arrowFrom v1 v2 w3).bind fun (w5 : Int32 × xmm) => (fX1_walkAt_97 w5.1 v3 w5.2).bind fun (w7 : Int32 × xmm) => some (w7.1, w7.2)) = some z) : fX11_walk_0 v1 v2 v3 m = some z := by
  refine xstI ?_
  show xT 129 6 0 [(0, .ref 0), (1, .int v1), (2, .int v2), (3, .int v3)] [] m (some (.int z.1), z.2)
  refine e_aload_n rfl rfl rfl (xnm_no rfl) ?_
  refine e_getR (r := 10) rfl rfl rfl rfl rfl (xnm_no rfl) ?_
  refine e_iload_n rfl rfl (xnm_no rfl) ?_
  refine e_iload_n rfl rfl (xnm_no rfl) ?_
  obtain ⟨w1, hw2, h⟩ := xbd_some h
  refine e_cIV (hc := hw2) (rest := []) rfl rfl rfl rfl rfl rfl rfl rfl (xnm_no rfl) ?_
  refine e_if_ne (t := 14) rfl rfl (xnm_no rfl) (xnm_no rfl) h (fun h => ?_) (fun h => ?_)
  · refine e_aload_n rfl rfl rfl (xnm_no rfl) ?_
    obtain ⟨w3, hw4, h⟩ := xbd_some h
    refine e_cVV (hc := hw4) (rest := []) rfl rfl rfl rfl rfl rfl rfl rfl (xnm_no rfl) ?_
    refine e_aload_n rfl rfl rfl (xnm_no rfl) ?_
    refine e_getR (r := 97) rfl rfl rfl rfl rfl (xnm_no rfl) ?_
    refine e_iload_n rfl rfl (xnm_no rfl) ?_
    refine e_iload_n rfl rfl (xnm_no rfl) ?_
    obtain ⟨w5, hw6, h⟩ := xbd_some h
    refine e_cIS (hc := hw6) (rest := [.ref 97]) rfl rfl rfl rfl rfl rfl rfl rfl (xnm_no rfl) ?_
    refine e_iload_n rfl rfl (xnm_no rfl) ?_
    obtain ⟨w7, hw8, h⟩ := xbd_some h
    refine e_cIV (hc := hw8) (rest := []) rfl rfl rfl rfl rfl rfl rfl rfl (xnm_no rfl) ?_
    cases h
    exact e_retI rfl rfl
  · refine e_iconst (x := -1) rfl (by decide) (xnm_no rfl) ?_
    cases h
    exact e_retI rfl rfl
set_option maxRecDepth 4000 in
theorem fL_arrows_0_i (v1 : Int32) (m : xmm) {z : Int32 × xmm} (h : ((fX11_count_0 (0 : Int32) m).bind fun (w1 : Int32 × xmm) => (fX11_count_0 (1 : Int32) w1.2).bind fun (w3 : Int32 × xmm) => (fX11_network_0 (1 : Int32) w3.2).bind fun (w5 : Int32 × xmm) => (fX11_network_0 (2 : Int32) w5.2).bind fun (w7 : Int32 × xmm) => if (w5.1 - w5.1 / (2 : Int32) * (2 : Int32)) = (w7.1 - w7.1 / (2 : Int32) * (2 : Int32)) then (fX11_network_0 (0 : Int32) w7.2).bind fun (w9 : Int32 × xmm) => if w9.1 = (1 : Int32) then bL_arrows_0_43 v1 w1.1 w3.1 (1 : Int32) w9.2 else bL_arrows_0_43 v1 w1.1 w3.1 (0 : Int32) w9.2 else bL_arrows_0_134 v1 w1.1 w3.1 w7.2) = some z) : fL_arrows_0 v1 m = some z := by
  refine xstI ?_
  show xT 167 15 0 [(0, .ref 0), (1, .int v1)] [] m (some (.int z.1), z.2)
  refine e_aload_n rfl rfl rfl (xnm_no rfl) ?_
  refine e_iconst (x := 0) rfl (by decide) (xnm_no rfl) ?_
  obtain ⟨w1, hw2, h⟩ := xbd_some h
  refine e_cIV (hc := hw2) (rest := []) rfl rfl rfl rfl rfl rfl rfl rfl (xnm_no rfl) ?_
  refine e_istore_n rfl rfl (xnm_no rfl) ?_
  refine e_aload_n rfl rfl rfl (xnm_no rfl) ?_
  refine e_iconst (x := 1) rfl (by decide) (xnm_no rfl) ?_
  obtain ⟨w3, hw4, h⟩ := xbd_some h
  refine e_cIV (hc := hw4) (rest := []) rfl rfl rfl rfl rfl rfl rfl rfl (xnm_no rfl) ?_
  refine e_istore_n rfl rfl (xnm_no rfl) ?_
  refine e_aload_n rfl rfl rfl (xnm_no rfl) ?_
  refine e_iconst (x := 1) rfl (by decide) (xnm_no rfl) ?_
  obtain ⟨w5, hw6, h⟩ := xbd_some h
  refine e_cIV (hc := hw6) (rest := []) rfl rfl rfl rfl rfl rfl rfl rfl (xnm_no rfl) ?_
  refine e_iconst (x := 2) rfl (by decide) (xnm_no rfl) ?_
  refine e_irem rfl (by decide) (xnm_no rfl) ?_
  refine e_aload_n rfl rfl rfl (xnm_no rfl) ?_
  refine e_iconst (x := 2) rfl (by decide) (xnm_no rfl) ?_
  obtain ⟨w7, hw8, h⟩ := xbd_some h
  refine e_cIV (hc := hw8) (rest := [.int _]) rfl rfl rfl rfl rfl rfl rfl rfl (xnm_no rfl) ?_
  refine e_iconst (x := 2) rfl (by decide) (xnm_no rfl) ?_
  refine e_irem rfl (by decide) (xnm_no rfl) ?_
  refine e_icmp_ne (t := 134) rfl rfl rfl (xnm_no rfl) h (fun h => ?_) (fun h => ?_)
  · exact xlfI h
  · refine e_aload_n rfl rfl rfl (xnm_no rfl) ?_
    refine e_iconst (x := 0) rfl (by decide) (xnm_no rfl) ?_
    obtain ⟨w9, hw10, h⟩ := xbd_some h
    refine e_cIV (hc := hw10) (rest := []) rfl rfl rfl rfl rfl rfl rfl rfl (xnm_no rfl) ?_
    refine e_iconst (x := 1) rfl (by decide) (xnm_no rfl) ?_
    refine e_icmp_ne (t := 42) rfl rfl (xnm_no rfl) (xnm_no rfl) h (fun h => ?_) (fun h => ?_)
    · refine e_iconst (x := 0) rfl (by decide) rfl ?_
      exact xlfI h
    · refine e_iconst (x := 1) rfl (by decide) (xnm_no rfl) ?_
      refine e_goto (t := 43) rfl rfl rfl ?_
      exact xlfI h
set_option maxRecDepth 4000 in
theorem bL_arrows_0_134_i (v1 : Int32) (v2 : Int32) (v3 : Int32) (m : xmm) {z : Int32 × xmm} (h : (bL_arrows_0_143 v1 v2 v3 (0 : Int32) (0 : Int32) (0 : Int32) m) = some z) : bL_arrows_0_134 v1 v2 v3 m = some z := by
  refine xstI ?_
  show xT 167 15 134 [(0, .ref 0), (1, .int v1), (2, .int v2), (3, .int v3)] [] m (some (.int z.1), z.2)
  refine e_iconst (x := 0) rfl (by decide) (xnm_no rfl) ?_
  refine e_istore rfl rfl (xnm_no rfl) ?_
  refine e_iconst (x := 0) rfl (by decide) (xnm_no rfl) ?_
  refine e_istore rfl rfl (xnm_no rfl) ?_
  refine e_iconst (x := 0) rfl (by decide) (xnm_no rfl) ?_
  refine e_istore rfl rfl rfl ?_
  exact xlfI h
set_option maxRecDepth 4000 in
theorem bL_arrows_0_43_i (v1 : Int32) (v2 : Int32) (v3 : Int32) (s0 : Int32) (m : xmm) {z : Int32 × xmm} (h : ((fX11_network_0 (2 : Int32) m).bind fun (w1 : Int32 × xmm) => if w1.1 = 0 then bL_arrows_0_56 v1 v2 v3 s0 (1 : Int32) w1.2 else bL_arrows_0_56 v1 v2 v3 s0 (0 : Int32) w1.2) = some z) : bL_arrows_0_43 v1 v2 v3 s0 m = some z := by
  refine xstI ?_
  show xT 167 15 43 [(0, .ref 0), (1, .int v1), (2, .int v2), (3, .int v3)] [.int s0] m (some (.int z.1), z.2)
  refine e_aload_n rfl rfl rfl (xnm_no rfl) ?_
  refine e_iconst (x := 2) rfl (by decide) (xnm_no rfl) ?_
  obtain ⟨w1, hw2, h⟩ := xbd_some h
  refine e_cIV (hc := hw2) (rest := [.int _]) rfl rfl rfl rfl rfl rfl rfl rfl (xnm_no rfl) ?_
  refine e_if_ne (t := 55) rfl rfl (xnm_no rfl) (xnm_no rfl) h (fun h => ?_) (fun h => ?_)
  · refine e_iconst (x := 0) rfl (by decide) rfl ?_
    exact xlfI h
  · refine e_iconst (x := 1) rfl (by decide) (xnm_no rfl) ?_
    refine e_goto (t := 56) rfl rfl rfl ?_
    exact xlfI h
set_option maxRecDepth 4000 in
theorem bL_arrows_0_143_i (v1 : Int32) (v2 : Int32) (v3 : Int32) (v4 : Int32) (v5 : Int32) (v6 : Int32) (m : xmm) {z : Int32 × xmm} (h : (if v2 ≤ v6 then if v4 = 0 then bL_arrows_0_187 v1 v3 (0 : Int32) m else if v5 = ((2 : Int32) * v3) then bL_arrows_0_187 v1 v3 (1 : Int32) m else bL_arrows_0_187 v1 v3 (0 : Int32) m else (fX11_near_0 v6 m).bind fun (w1 : Int32 × xmm) => (fJ6_bitCount w1.1 w1.2).bind fun (w3 : Int32 × xmm) => bL_arrows_0_143 v1 v2 v3 v4 (v5 + w3.1) (v6 + (1 : Int32)) w3.2) = some z) : bL_arrows_0_143 v1 v2 v3 v4 v5 v6 m = some z := by
  refine xstI ?_
  show xT 167 15 143 [(0, .ref 0), (1, .int v1), (2, .int v2), (3, .int v3), (4, .int v4), (5, .int v5), (6, .int v6)] [] m (some (.int z.1), z.2)
  refine e_iload rfl rfl (xnm_no rfl) ?_
  refine e_iload_n rfl rfl (xnm_no rfl) ?_
  refine e_icmp_ge (t := 169) rfl rfl (xnm_no rfl) (xnm_no rfl) h (fun h => ?_) (fun h => ?_)
  · refine e_iload rfl rfl (xnm_no rfl) ?_
    refine e_if_eq (t := 186) rfl rfl (xnm_no rfl) (xnm_no rfl) h (fun h => ?_) (fun h => ?_)
    · refine e_iconst (x := 0) rfl (by decide) rfl ?_
      exact xlfI h
    · refine e_iload rfl rfl (xnm_no rfl) ?_
      refine e_iconst (x := 2) rfl (by decide) (xnm_no rfl) ?_
      refine e_iload_n rfl rfl (xnm_no rfl) ?_
      refine e_imul rfl (xnm_no rfl) ?_
      refine e_icmp_ne (t := 186) rfl rfl (xnm_no rfl) (xnm_no rfl) h (fun h => ?_) (fun h => ?_)
      · refine e_iconst (x := 0) rfl (by decide) rfl ?_
        exact xlfI h
      · refine e_iconst (x := 1) rfl (by decide) (xnm_no rfl) ?_
        refine e_goto (t := 187) rfl rfl rfl ?_
        exact xlfI h
  · refine e_iload rfl rfl (xnm_no rfl) ?_
    refine e_aload_n rfl rfl rfl (xnm_no rfl) ?_
    refine e_iload rfl rfl (xnm_no rfl) ?_
    obtain ⟨w1, hw2, h⟩ := xbd_some h
    refine e_cIV (hc := hw2) (rest := [.int _]) rfl rfl rfl rfl rfl rfl rfl rfl (xnm_no rfl) ?_
    obtain ⟨w3, hw4, h⟩ := xbd_some h
    refine e_cIS (hc := hw4) (rest := [.int _]) rfl rfl rfl rfl rfl rfl rfl rfl (xnm_no rfl) ?_
    refine e_iadd rfl (xnm_no rfl) ?_
    refine e_istore rfl rfl (xnm_no rfl) ?_
    refine e_iinc (y := 1) rfl rfl rfl (by decide) (xnm_no rfl) ?_
    refine e_goto (t := 143) rfl rfl rfl ?_
    exact xlfI h
set_option maxRecDepth 4000 in
theorem bL_arrows_0_56_i (v1 : Int32) (v2 : Int32) (v3 : Int32) (s0 : Int32) (s1 : Int32) (m : xmm) {z : Int32 × xmm} (h : (if s0 = s1 then (fX11_network_0 (3 : Int32) m).bind fun (w1 : Int32 × xmm) => if w1.1 ≤ 0 then bL_arrows_0_72 v1 v2 v3 (0 : Int32) w1.2 else bL_arrows_0_72 v1 v2 v3 (1 : Int32) w1.2 else bL_arrows_0_134 v1 v2 v3 m) = some z) : bL_arrows_0_56 v1 v2 v3 s0 s1 m = some z := by
  refine xstI ?_
  show xT 167 15 56 [(0, .ref 0), (1, .int v1), (2, .int v2), (3, .int v3)] [.int s1, .int s0] m (some (.int z.1), z.2)
  refine e_icmp_ne (t := 134) rfl rfl rfl (xnm_no rfl) h (fun h => ?_) (fun h => ?_)
  · exact xlfI h
  · refine e_aload_n rfl rfl rfl (xnm_no rfl) ?_
    refine e_iconst (x := 3) rfl (by decide) (xnm_no rfl) ?_
    obtain ⟨w1, hw2, h⟩ := xbd_some h
    refine e_cIV (hc := hw2) (rest := []) rfl rfl rfl rfl rfl rfl rfl rfl (xnm_no rfl) ?_
    refine e_if_le (t := 71) rfl rfl (xnm_no rfl) (xnm_no rfl) h (fun h => ?_) (fun h => ?_)
    · refine e_iconst (x := 0) rfl (by decide) rfl ?_
      exact xlfI h
    · refine e_iconst (x := 1) rfl (by decide) (xnm_no rfl) ?_
      refine e_goto (t := 72) rfl rfl rfl ?_
      exact xlfI h
set_option maxRecDepth 4000 in
theorem bL_arrows_0_187_i (v1 : Int32) (v3 : Int32) (s0 : Int32) (m : xmm) {z : Int32 × xmm} (h : (if v3 ≤ 0 then xgd (xz01 s0) (some (s0, m)) else xgd (!(decide (v3 = 0))) ((fX11_of_0 (v1 - v1 / v3 * v3) (0 : Int32) m).bind fun (w3 : Int32 × xmm) => (fX11_of_0 (v1 - v1 / v3 * v3) (1 : Int32) w3.2).bind fun (w5 : Int32 × xmm) => if s0 = 0 then bL_arrows_0_365 w3.1 w5.1 (0 : Int32) w5.2 else if w5.1 ≤ w3.1 then bL_arrows_0_365 w3.1 w5.1 (0 : Int32) w5.2 else (fX11_near_0 w3.1 w5.2).bind fun (w7 : Int32 × xmm) => if ((w7.1 >>> (w5.1 &&& 31)) &&& (1 : Int32)) = (1 : Int32) then (fX11_klass_0 w3.1 w5.1 (0 : Int32) w7.2).bind fun (w9 : Int32 × xmm) => (fX11_klass_0 w5.1 w3.1 (0 : Int32) w9.2).bind fun (w11 : Int32 × xmm) => if w9.1 = w11.1 then (fX11_klass_0 w3.1 w5.1 (1 : Int32) w11.2).bind fun (w13 : Int32 × xmm) => (fX11_klass_0 w5.1 w3.1 (1 : Int32) w13.2).bind fun (w15 : Int32 × xmm) => if w13.1 = w15.1 then (fX11_klass_0 w3.1 w5.1 (2 : Int32) w15.2).bind fun (w17 : Int32 × xmm) => (fX11_klass_0 w5.1 w3.1 (2 : Int32) w17.2).bind fun (w19 : Int32 × xmm) => if w17.1 = w19.1 then (fX11_klass_0 w3.1 w5.1 (2 : Int32) w19.2).bind fun (w21 : Int32 × xmm) => if ((w21.1 >>> ((v1 - v1 / v3 * v3) &&& 31)) &&& (1 : Int32)) = (1 : Int32) then (fX11_klass_0 w3.1 w5.1 (3 : Int32) w21.2).bind fun (w23 : Int32 × xmm) => (fX11_klass_0 w5.1 w3.1 (3 : Int32) w23.2).bind fun (w25 : Int32 × xmm) => if w23.1 = w25.1 then (fX11_forces_0 w3.1 w5.1 w3.1 w5.1 w25.2).bind fun (w27 : Int32 × xmm) => if w27.1 = 0 then bL_arrows_0_365 w3.1 w5.1 (1 : Int32) w27.2 else bL_arrows_0_365 w3.1 w5.1 (0 : Int32) w27.2 else bL_arrows_0_365 w3.1 w5.1 (0 : Int32) w25.2 else bL_arrows_0_365 w3.1 w5.1 (0 : Int32) w21.2 else bL_arrows_0_365 w3.1 w5.1 (0 : Int32) w19.2 else bL_arrows_0_365 w3.1 w5.1 (0 : Int32) w15.2 else bL_arrows_0_365 w3.1 w5.1 (0 : Int32) w11.2 else bL_arrows_0_365 w3.1 w5.1 (0 : Int32) w7.2)) = some z) : bL_arrows_0_187 v1 v3 s0 m = some z := by
  refine xstI ?_
  show xT 167 15 187 [(0, .ref 0), (1, .int v1), (3, .int v3)] [.int s0] m (some (.int z.1), z.2)
  refine e_istore rfl rfl (xnm_no rfl) ?_
  refine e_iload_n rfl rfl (xnm_no rfl) ?_
  refine e_if_le (t := 593) rfl rfl (xnm_no rfl) (xnm_no rfl) h (fun h => ?_) (fun h => ?_)
  · refine e_iload rfl rfl (xnm_no rfl) ?_
    obtain ⟨g1, h⟩ := xgd_some h
    cases h
    exact e_retI rfl g1
  · refine e_iload_n rfl rfl (xnm_no rfl) ?_
    refine e_iload_n rfl rfl (xnm_no rfl) ?_
    obtain ⟨g2, h⟩ := xgd_some h
    refine e_irem rfl (xnz g2) (xnm_no rfl) ?_
    refine e_istore rfl rfl (xnm_no rfl) ?_
    refine e_aload_n rfl rfl rfl (xnm_no rfl) ?_
    refine e_iload rfl rfl (xnm_no rfl) ?_
    refine e_iconst (x := 0) rfl (by decide) (xnm_no rfl) ?_
    obtain ⟨w3, hw4, h⟩ := xbd_some h
    refine e_cIV (hc := hw4) (rest := []) rfl rfl rfl rfl rfl rfl rfl rfl (xnm_no rfl) ?_
    refine e_istore rfl rfl (xnm_no rfl) ?_
    refine e_aload_n rfl rfl rfl (xnm_no rfl) ?_
    refine e_iload rfl rfl (xnm_no rfl) ?_
    refine e_iconst (x := 1) rfl (by decide) (xnm_no rfl) ?_
    obtain ⟨w5, hw6, h⟩ := xbd_some h
    refine e_cIV (hc := hw6) (rest := []) rfl rfl rfl rfl rfl rfl rfl rfl (xnm_no rfl) ?_
    refine e_istore rfl rfl (xnm_no rfl) ?_
    refine e_iload rfl rfl (xnm_no rfl) ?_
    refine e_if_eq (t := 364) rfl rfl (xnm_no rfl) (xnm_no rfl) h (fun h => ?_) (fun h => ?_)
    · refine e_iconst (x := 0) rfl (by decide) rfl ?_
      exact xlfI h
    · refine e_iload rfl rfl (xnm_no rfl) ?_
      refine e_iload rfl rfl (xnm_no rfl) ?_
      refine e_icmp_ge (t := 364) rfl rfl (xnm_no rfl) (xnm_no rfl) h (fun h => ?_) (fun h => ?_)
      · refine e_iconst (x := 0) rfl (by decide) rfl ?_
        exact xlfI h
      · refine e_aload_n rfl rfl rfl (xnm_no rfl) ?_
        refine e_iload rfl rfl (xnm_no rfl) ?_
        obtain ⟨w7, hw8, h⟩ := xbd_some h
        refine e_cIV (hc := hw8) (rest := []) rfl rfl rfl rfl rfl rfl rfl rfl (xnm_no rfl) ?_
        refine e_iload rfl rfl (xnm_no rfl) ?_
        refine e_ishr rfl (xnm_no rfl) ?_
        refine e_iconst (x := 1) rfl (by decide) (xnm_no rfl) ?_
        refine e_iand rfl (xnm_no rfl) ?_
        refine e_iconst (x := 1) rfl (by decide) (xnm_no rfl) ?_
        refine e_icmp_ne (t := 364) rfl rfl (xnm_no rfl) (xnm_no rfl) h (fun h => ?_) (fun h => ?_)
        · refine e_iconst (x := 0) rfl (by decide) rfl ?_
          exact xlfI h
        · refine e_aload_n rfl rfl rfl (xnm_no rfl) ?_
          refine e_iload rfl rfl (xnm_no rfl) ?_
          refine e_iload rfl rfl (xnm_no rfl) ?_
          refine e_iconst (x := 0) rfl (by decide) (xnm_no rfl) ?_
          obtain ⟨w9, hw10, h⟩ := xbd_some h
          refine e_cIV (hc := hw10) (rest := []) rfl rfl rfl rfl rfl rfl rfl rfl (xnm_no rfl) ?_
          refine e_aload_n rfl rfl rfl (xnm_no rfl) ?_
          refine e_iload rfl rfl (xnm_no rfl) ?_
          refine e_iload rfl rfl (xnm_no rfl) ?_
          refine e_iconst (x := 0) rfl (by decide) (xnm_no rfl) ?_
          obtain ⟨w11, hw12, h⟩ := xbd_some h
          refine e_cIV (hc := hw12) (rest := [.int _]) rfl rfl rfl rfl rfl rfl rfl rfl (xnm_no rfl) ?_
          refine e_icmp_ne (t := 364) rfl rfl (xnm_no rfl) (xnm_no rfl) h (fun h => ?_) (fun h => ?_)
          · refine e_iconst (x := 0) rfl (by decide) rfl ?_
            exact xlfI h
          · refine e_aload_n rfl rfl rfl (xnm_no rfl) ?_
            refine e_iload rfl rfl (xnm_no rfl) ?_
            refine e_iload rfl rfl (xnm_no rfl) ?_
            refine e_iconst (x := 1) rfl (by decide) (xnm_no rfl) ?_
            obtain ⟨w13, hw14, h⟩ := xbd_some h
            refine e_cIV (hc := hw14) (rest := []) rfl rfl rfl rfl rfl rfl rfl rfl (xnm_no rfl) ?_
            refine e_aload_n rfl rfl rfl (xnm_no rfl) ?_
            refine e_iload rfl rfl (xnm_no rfl) ?_
            refine e_iload rfl rfl (xnm_no rfl) ?_
            refine e_iconst (x := 1) rfl (by decide) (xnm_no rfl) ?_
            obtain ⟨w15, hw16, h⟩ := xbd_some h
            refine e_cIV (hc := hw16) (rest := [.int _]) rfl rfl rfl rfl rfl rfl rfl rfl (xnm_no rfl) ?_
            refine e_icmp_ne (t := 364) rfl rfl (xnm_no rfl) (xnm_no rfl) h (fun h => ?_) (fun h => ?_)
            · refine e_iconst (x := 0) rfl (by decide) rfl ?_
              exact xlfI h
            · refine e_aload_n rfl rfl rfl (xnm_no rfl) ?_
              refine e_iload rfl rfl (xnm_no rfl) ?_
              refine e_iload rfl rfl (xnm_no rfl) ?_
              refine e_iconst (x := 2) rfl (by decide) (xnm_no rfl) ?_
              obtain ⟨w17, hw18, h⟩ := xbd_some h
              refine e_cIV (hc := hw18) (rest := []) rfl rfl rfl rfl rfl rfl rfl rfl (xnm_no rfl) ?_
              refine e_aload_n rfl rfl rfl (xnm_no rfl) ?_
              refine e_iload rfl rfl (xnm_no rfl) ?_
              refine e_iload rfl rfl (xnm_no rfl) ?_
              refine e_iconst (x := 2) rfl (by decide) (xnm_no rfl) ?_
              obtain ⟨w19, hw20, h⟩ := xbd_some h
              refine e_cIV (hc := hw20) (rest := [.int _]) rfl rfl rfl rfl rfl rfl rfl rfl (xnm_no rfl) ?_
              refine e_icmp_ne (t := 364) rfl rfl (xnm_no rfl) (xnm_no rfl) h (fun h => ?_) (fun h => ?_)
              · refine e_iconst (x := 0) rfl (by decide) rfl ?_
                exact xlfI h
              · refine e_aload_n rfl rfl rfl (xnm_no rfl) ?_
                refine e_iload rfl rfl (xnm_no rfl) ?_
                refine e_iload rfl rfl (xnm_no rfl) ?_
                refine e_iconst (x := 2) rfl (by decide) (xnm_no rfl) ?_
                obtain ⟨w21, hw22, h⟩ := xbd_some h
                refine e_cIV (hc := hw22) (rest := []) rfl rfl rfl rfl rfl rfl rfl rfl (xnm_no rfl) ?_
                refine e_iload rfl rfl (xnm_no rfl) ?_
                refine e_ishr rfl (xnm_no rfl) ?_
                refine e_iconst (x := 1) rfl (by decide) (xnm_no rfl) ?_
                refine e_iand rfl (xnm_no rfl) ?_
                refine e_iconst (x := 1) rfl (by decide) (xnm_no rfl) ?_
                refine e_icmp_ne (t := 364) rfl rfl (xnm_no rfl) (xnm_no rfl) h (fun h => ?_) (fun h => ?_)
                · refine e_iconst (x := 0) rfl (by decide) rfl ?_
                  exact xlfI h
                · refine e_aload_n rfl rfl rfl (xnm_no rfl) ?_
                  refine e_iload rfl rfl (xnm_no rfl) ?_
                  refine e_iload rfl rfl (xnm_no rfl) ?_
                  refine e_iconst (x := 3) rfl (by decide) (xnm_no rfl) ?_
                  obtain ⟨w23, hw24, h⟩ := xbd_some h
                  refine e_cIV (hc := hw24) (rest := []) rfl rfl rfl rfl rfl rfl rfl rfl (xnm_no rfl) ?_
                  refine e_aload_n rfl rfl rfl (xnm_no rfl) ?_
                  refine e_iload rfl rfl (xnm_no rfl) ?_
                  refine e_iload rfl rfl (xnm_no rfl) ?_
                  refine e_iconst (x := 3) rfl (by decide) (xnm_no rfl) ?_
                  obtain ⟨w25, hw26, h⟩ := xbd_some h
                  refine e_cIV (hc := hw26) (rest := [.int _]) rfl rfl rfl rfl rfl rfl rfl rfl (xnm_no rfl) ?_
                  refine e_icmp_ne (t := 364) rfl rfl (xnm_no rfl) (xnm_no rfl) h (fun h => ?_) (fun h => ?_)
                  · refine e_iconst (x := 0) rfl (by decide) rfl ?_
                    exact xlfI h
                  · refine e_aload_n rfl rfl rfl (xnm_no rfl) ?_
                    refine e_iload rfl rfl (xnm_no rfl) ?_
                    refine e_iload rfl rfl (xnm_no rfl) ?_
                    refine e_iload rfl rfl (xnm_no rfl) ?_
                    refine e_iload rfl rfl (xnm_no rfl) ?_
                    obtain ⟨w27, hw28, h⟩ := xbd_some h
                    refine e_cIV (hc := hw28) (rest := []) rfl rfl rfl rfl rfl rfl rfl rfl (xnm_no rfl) ?_
                    refine e_if_ne (t := 364) rfl rfl (xnm_no rfl) (xnm_no rfl) h (fun h => ?_) (fun h => ?_)
                    · refine e_iconst (x := 0) rfl (by decide) rfl ?_
                      exact xlfI h
                    · refine e_iconst (x := 1) rfl (by decide) (xnm_no rfl) ?_
                      refine e_goto (t := 365) rfl rfl rfl ?_
                      exact xlfI h
set_option maxRecDepth 4000 in
theorem bL_arrows_0_72_i (v1 : Int32) (v2 : Int32) (v3 : Int32) (s0 : Int32) (m : xmm) {z : Int32 × xmm} (h : ((fX11_network_0 (0 : Int32) m).bind fun (w1 : Int32 × xmm) => if w1.1 = (1 : Int32) then bL_arrows_0_86 v1 v2 v3 s0 (1 : Int32) w1.2 else bL_arrows_0_86 v1 v2 v3 s0 (0 : Int32) w1.2) = some z) : bL_arrows_0_72 v1 v2 v3 s0 m = some z := by
  refine xstI ?_
  show xT 167 15 72 [(0, .ref 0), (1, .int v1), (2, .int v2), (3, .int v3)] [.int s0] m (some (.int z.1), z.2)
  refine e_aload_n rfl rfl rfl (xnm_no rfl) ?_
  refine e_iconst (x := 0) rfl (by decide) (xnm_no rfl) ?_
  obtain ⟨w1, hw2, h⟩ := xbd_some h
  refine e_cIV (hc := hw2) (rest := [.int _]) rfl rfl rfl rfl rfl rfl rfl rfl (xnm_no rfl) ?_
  refine e_iconst (x := 1) rfl (by decide) (xnm_no rfl) ?_
  refine e_icmp_ne (t := 85) rfl rfl (xnm_no rfl) (xnm_no rfl) h (fun h => ?_) (fun h => ?_)
  · refine e_iconst (x := 0) rfl (by decide) rfl ?_
    exact xlfI h
  · refine e_iconst (x := 1) rfl (by decide) (xnm_no rfl) ?_
    refine e_goto (t := 86) rfl rfl rfl ?_
    exact xlfI h
set_option maxRecDepth 4000 in
theorem bL_arrows_0_365_i (v7 : Int32) (v8 : Int32) (s0 : Int32) (m : xmm) {z : Int32 × xmm} (h : ((fX11_klass_0 v7 v8 (3 : Int32) m).bind fun (w1 : Int32 × xmm) => if s0 = 0 then bL_arrows_0_486 (0 : Int32) v7 v8 w1.1 (1 : Int32) w1.2 else if w1.1 ≤ 0 then bL_arrows_0_393 v7 v8 w1.1 (0 : Int32) w1.2 else bL_arrows_0_393 v7 v8 w1.1 (1 : Int32) w1.2) = some z) : bL_arrows_0_365 v7 v8 s0 m = some z := by
  refine xstI ?_
  show xT 167 15 365 [(0, .ref 0), (7, .int v7), (8, .int v8)] [.int s0] m (some (.int z.1), z.2)
  refine e_istore rfl rfl (xnm_no rfl) ?_
  refine e_aload_n rfl rfl rfl (xnm_no rfl) ?_
  refine e_iload rfl rfl (xnm_no rfl) ?_
  refine e_iload rfl rfl (xnm_no rfl) ?_
  refine e_iconst (x := 3) rfl (by decide) (xnm_no rfl) ?_
  obtain ⟨w1, hw2, h⟩ := xbd_some h
  refine e_cIV (hc := hw2) (rest := []) rfl rfl rfl rfl rfl rfl rfl rfl (xnm_no rfl) ?_
  refine e_istore rfl rfl (xnm_no rfl) ?_
  refine e_iload rfl rfl (xnm_no rfl) ?_
  refine e_if_eq (t := 480) rfl rfl (xnm_no rfl) (xnm_no rfl) h (fun h => ?_) (fun h => ?_)
  · refine e_iconst (x := 0) rfl (by decide) (xnm_no rfl) ?_
    refine e_istore rfl rfl (xnm_no rfl) ?_
    refine e_iconst (x := 1) rfl (by decide) (xnm_no rfl) ?_
    refine e_istore rfl rfl rfl ?_
    exact xlfI h
  · refine e_iload rfl rfl (xnm_no rfl) ?_
    refine e_if_le (t := 392) rfl rfl (xnm_no rfl) (xnm_no rfl) h (fun h => ?_) (fun h => ?_)
    · refine e_iconst (x := 0) rfl (by decide) rfl ?_
      exact xlfI h
    · refine e_iconst (x := 1) rfl (by decide) (xnm_no rfl) ?_
      refine e_goto (t := 393) rfl rfl rfl ?_
      exact xlfI h
set_option maxRecDepth 4000 in
theorem bL_arrows_0_86_i (v1 : Int32) (v2 : Int32) (v3 : Int32) (s0 : Int32) (s1 : Int32) (m : xmm) {z : Int32 × xmm} (h : (if s0 = s1 then (fX11_network_0 (5 : Int32) m).bind fun (w1 : Int32 × xmm) => if w1.1 = (1 : Int32) then bL_arrows_0_103 v1 v2 v3 (1 : Int32) w1.2 else bL_arrows_0_103 v1 v2 v3 (0 : Int32) w1.2 else bL_arrows_0_134 v1 v2 v3 m) = some z) : bL_arrows_0_86 v1 v2 v3 s0 s1 m = some z := by
  refine xstI ?_
  show xT 167 15 86 [(0, .ref 0), (1, .int v1), (2, .int v2), (3, .int v3)] [.int s1, .int s0] m (some (.int z.1), z.2)
  refine e_icmp_ne (t := 134) rfl rfl rfl (xnm_no rfl) h (fun h => ?_) (fun h => ?_)
  · exact xlfI h
  · refine e_aload_n rfl rfl rfl (xnm_no rfl) ?_
    refine e_iconst (x := 5) rfl (by decide) (xnm_no rfl) ?_
    obtain ⟨w1, hw2, h⟩ := xbd_some h
    refine e_cIV (hc := hw2) (rest := []) rfl rfl rfl rfl rfl rfl rfl rfl (xnm_no rfl) ?_
    refine e_iconst (x := 1) rfl (by decide) (xnm_no rfl) ?_
    refine e_icmp_ne (t := 102) rfl rfl (xnm_no rfl) (xnm_no rfl) h (fun h => ?_) (fun h => ?_)
    · refine e_iconst (x := 0) rfl (by decide) rfl ?_
      exact xlfI h
    · refine e_iconst (x := 1) rfl (by decide) (xnm_no rfl) ?_
      refine e_goto (t := 103) rfl rfl rfl ?_
      exact xlfI h
set_option maxRecDepth 4000 in
theorem bL_arrows_0_486_i (v4 : Int32) (v7 : Int32) (v8 : Int32) (v9 : Int32) (v10 : Int32) (m : xmm) {z : Int32 × xmm} (h : (if v9 ≤ v10 then xgd (xz01 v4) (some (v4, m)) else (fX11_walk_0 v7 v8 (v10 - (1 : Int32)) m).bind fun (w2 : Int32 × xmm) => (fX11_walk_0 v7 v8 v10 w2.2).bind fun (w4 : Int32 × xmm) => if v4 = 0 then bL_arrows_0_486 (0 : Int32) v7 v8 v9 (v10 + (1 : Int32)) w4.2 else (fX11_forces_0 (w2.1 / (8 : Int32)) (w2.1 - w2.1 / (8 : Int32) * (8 : Int32)) (w4.1 / (8 : Int32)) (w4.1 - w4.1 / (8 : Int32) * (8 : Int32)) w4.2).bind fun (w6 : Int32 × xmm) => if w6.1 = (1 : Int32) then (fX11_forces_0 (w4.1 / (8 : Int32)) (w4.1 - w4.1 / (8 : Int32) * (8 : Int32)) (w2.1 / (8 : Int32)) (w2.1 - w2.1 / (8 : Int32) * (8 : Int32)) w6.2).bind fun (w8 : Int32 × xmm) => if w8.1 = (1 : Int32) then bL_arrows_0_486 (1 : Int32) v7 v8 v9 (v10 + (1 : Int32)) w8.2 else bL_arrows_0_486 (0 : Int32) v7 v8 v9 (v10 + (1 : Int32)) w8.2 else bL_arrows_0_486 (0 : Int32) v7 v8 v9 (v10 + (1 : Int32)) w6.2) = some z) : bL_arrows_0_486 v4 v7 v8 v9 v10 m = some z := by
  refine xstI ?_
  show xT 167 15 486 [(0, .ref 0), (4, .int v4), (7, .int v7), (8, .int v8), (9, .int v9), (10, .int v10)] [] m (some (.int z.1), z.2)
  refine e_iload rfl rfl (xnm_no rfl) ?_
  refine e_iload rfl rfl (xnm_no rfl) ?_
  refine e_icmp_ge (t := 593) rfl rfl (xnm_no rfl) (xnm_no rfl) h (fun h => ?_) (fun h => ?_)
  · refine e_iload rfl rfl (xnm_no rfl) ?_
    obtain ⟨g1, h⟩ := xgd_some h
    cases h
    exact e_retI rfl g1
  · refine e_aload_n rfl rfl rfl (xnm_no rfl) ?_
    refine e_iload rfl rfl (xnm_no rfl) ?_
    refine e_iload rfl rfl (xnm_no rfl) ?_
    refine e_iload rfl rfl (xnm_no rfl) ?_
    refine e_iconst (x := 1) rfl (by decide) (xnm_no rfl) ?_
    refine e_isub rfl (xnm_no rfl) ?_
    obtain ⟨w2, hw3, h⟩ := xbd_some h
    refine e_cIV (hc := hw3) (rest := []) rfl rfl rfl rfl rfl rfl rfl rfl (xnm_no rfl) ?_
    refine e_istore rfl rfl (xnm_no rfl) ?_
    refine e_aload_n rfl rfl rfl (xnm_no rfl) ?_
    refine e_iload rfl rfl (xnm_no rfl) ?_
    refine e_iload rfl rfl (xnm_no rfl) ?_
    refine e_iload rfl rfl (xnm_no rfl) ?_
    obtain ⟨w4, hw5, h⟩ := xbd_some h
    refine e_cIV (hc := hw5) (rest := []) rfl rfl rfl rfl rfl rfl rfl rfl (xnm_no rfl) ?_
    refine e_istore rfl rfl (xnm_no rfl) ?_
    refine e_iload rfl rfl (xnm_no rfl) ?_
    refine e_if_eq (t := 584) rfl rfl (xnm_no rfl) (xnm_no rfl) h (fun h => ?_) (fun h => ?_)
    · refine e_iconst (x := 0) rfl (by decide) (xnm_no rfl) ?_
      refine e_istore rfl rfl (xnm_no rfl) ?_
      refine e_iinc (y := 1) rfl rfl rfl (by decide) (xnm_no rfl) ?_
      refine e_goto (t := 486) rfl rfl rfl ?_
      exact xlfI h
    · refine e_aload_n rfl rfl rfl (xnm_no rfl) ?_
      refine e_iload rfl rfl (xnm_no rfl) ?_
      refine e_bipush (x := 8) rfl (by decide) (xnm_no rfl) ?_
      refine e_idiv rfl (by decide) (xnm_no rfl) ?_
      refine e_iload rfl rfl (xnm_no rfl) ?_
      refine e_bipush (x := 8) rfl (by decide) (xnm_no rfl) ?_
      refine e_irem rfl (by decide) (xnm_no rfl) ?_
      refine e_iload rfl rfl (xnm_no rfl) ?_
      refine e_bipush (x := 8) rfl (by decide) (xnm_no rfl) ?_
      refine e_idiv rfl (by decide) (xnm_no rfl) ?_
      refine e_iload rfl rfl (xnm_no rfl) ?_
      refine e_bipush (x := 8) rfl (by decide) (xnm_no rfl) ?_
      refine e_irem rfl (by decide) (xnm_no rfl) ?_
      obtain ⟨w6, hw7, h⟩ := xbd_some h
      refine e_cIV (hc := hw7) (rest := []) rfl rfl rfl rfl rfl rfl rfl rfl (xnm_no rfl) ?_
      refine e_iconst (x := 1) rfl (by decide) (xnm_no rfl) ?_
      refine e_icmp_ne (t := 584) rfl rfl (xnm_no rfl) (xnm_no rfl) h (fun h => ?_) (fun h => ?_)
      · refine e_iconst (x := 0) rfl (by decide) (xnm_no rfl) ?_
        refine e_istore rfl rfl (xnm_no rfl) ?_
        refine e_iinc (y := 1) rfl rfl rfl (by decide) (xnm_no rfl) ?_
        refine e_goto (t := 486) rfl rfl rfl ?_
        exact xlfI h
      · refine e_aload_n rfl rfl rfl (xnm_no rfl) ?_
        refine e_iload rfl rfl (xnm_no rfl) ?_
        refine e_bipush (x := 8) rfl (by decide) (xnm_no rfl) ?_
        refine e_idiv rfl (by decide) (xnm_no rfl) ?_
        refine e_iload rfl rfl (xnm_no rfl) ?_
        refine e_bipush (x := 8) rfl (by decide) (xnm_no rfl) ?_
        refine e_irem rfl (by decide) (xnm_no rfl) ?_
        refine e_iload rfl rfl (xnm_no rfl) ?_
        refine e_bipush (x := 8) rfl (by decide) (xnm_no rfl) ?_
        refine e_idiv rfl (by decide) (xnm_no rfl) ?_
        refine e_iload rfl rfl (xnm_no rfl) ?_
        refine e_bipush (x := 8) rfl (by decide) (xnm_no rfl) ?_
        refine e_irem rfl (by decide) (xnm_no rfl) ?_
        obtain ⟨w8, hw9, h⟩ := xbd_some h
        refine e_cIV (hc := hw9) (rest := []) rfl rfl rfl rfl rfl rfl rfl rfl (xnm_no rfl) ?_
        refine e_iconst (x := 1) rfl (by decide) (xnm_no rfl) ?_
        refine e_icmp_ne (t := 584) rfl rfl (xnm_no rfl) (xnm_no rfl) h (fun h => ?_) (fun h => ?_)
        · refine e_iconst (x := 0) rfl (by decide) (xnm_no rfl) ?_
          refine e_istore rfl rfl (xnm_no rfl) ?_
          refine e_iinc (y := 1) rfl rfl rfl (by decide) (xnm_no rfl) ?_
          refine e_goto (t := 486) rfl rfl rfl ?_
          exact xlfI h
        · refine e_iconst (x := 1) rfl (by decide) (xnm_no rfl) ?_
          refine e_goto (t := 585) rfl rfl (xnm_no rfl) ?_
          refine e_istore rfl rfl (xnm_no rfl) ?_
          refine e_iinc (y := 1) rfl rfl rfl (by decide) (xnm_no rfl) ?_
          refine e_goto (t := 486) rfl rfl rfl ?_
          exact xlfI h
set_option maxRecDepth 4000 in
theorem bL_arrows_0_393_i (v7 : Int32) (v8 : Int32) (v9 : Int32) (s0 : Int32) (m : xmm) {z : Int32 × xmm} (h : ((fX11_klass_0 v7 v8 (1 : Int32) m).bind fun (w1 : Int32 × xmm) => if w1.1 = (1 : Int32) then bL_arrows_0_411 v7 v8 v9 s0 (1 : Int32) w1.2 else bL_arrows_0_411 v7 v8 v9 s0 (0 : Int32) w1.2) = some z) : bL_arrows_0_393 v7 v8 v9 s0 m = some z := by
  refine xstI ?_
  show xT 167 15 393 [(0, .ref 0), (7, .int v7), (8, .int v8), (9, .int v9)] [.int s0] m (some (.int z.1), z.2)
  refine e_aload_n rfl rfl rfl (xnm_no rfl) ?_
  refine e_iload rfl rfl (xnm_no rfl) ?_
  refine e_iload rfl rfl (xnm_no rfl) ?_
  refine e_iconst (x := 1) rfl (by decide) (xnm_no rfl) ?_
  obtain ⟨w1, hw2, h⟩ := xbd_some h
  refine e_cIV (hc := hw2) (rest := [.int _]) rfl rfl rfl rfl rfl rfl rfl rfl (xnm_no rfl) ?_
  refine e_iconst (x := 1) rfl (by decide) (xnm_no rfl) ?_
  refine e_icmp_ne (t := 410) rfl rfl (xnm_no rfl) (xnm_no rfl) h (fun h => ?_) (fun h => ?_)
  · refine e_iconst (x := 0) rfl (by decide) rfl ?_
    exact xlfI h
  · refine e_iconst (x := 1) rfl (by decide) (xnm_no rfl) ?_
    refine e_goto (t := 411) rfl rfl rfl ?_
    exact xlfI h
set_option maxRecDepth 4000 in
theorem bL_arrows_0_103_i (v1 : Int32) (v2 : Int32) (v3 : Int32) (s0 : Int32) (m : xmm) {z : Int32 × xmm} (h : ((fX11_network_0 (0 : Int32) m).bind fun (w1 : Int32 × xmm) => if w1.1 = (1 : Int32) then (fX11_network_0 (6 : Int32) w1.2).bind fun (w3 : Int32 × xmm) => if w3.1 = (1 : Int32) then bL_arrows_0_127 v1 v2 v3 s0 (1 : Int32) w3.2 else bL_arrows_0_127 v1 v2 v3 s0 (0 : Int32) w3.2 else bL_arrows_0_127 v1 v2 v3 s0 (0 : Int32) w1.2) = some z) : bL_arrows_0_103 v1 v2 v3 s0 m = some z := by
  refine xstI ?_
  show xT 167 15 103 [(0, .ref 0), (1, .int v1), (2, .int v2), (3, .int v3)] [.int s0] m (some (.int z.1), z.2)
  refine e_aload_n rfl rfl rfl (xnm_no rfl) ?_
  refine e_iconst (x := 0) rfl (by decide) (xnm_no rfl) ?_
  obtain ⟨w1, hw2, h⟩ := xbd_some h
  refine e_cIV (hc := hw2) (rest := [.int _]) rfl rfl rfl rfl rfl rfl rfl rfl (xnm_no rfl) ?_
  refine e_iconst (x := 1) rfl (by decide) (xnm_no rfl) ?_
  refine e_icmp_ne (t := 126) rfl rfl (xnm_no rfl) (xnm_no rfl) h (fun h => ?_) (fun h => ?_)
  · refine e_iconst (x := 0) rfl (by decide) rfl ?_
    exact xlfI h
  · refine e_aload_n rfl rfl rfl (xnm_no rfl) ?_
    refine e_bipush (x := 6) rfl (by decide) (xnm_no rfl) ?_
    obtain ⟨w3, hw4, h⟩ := xbd_some h
    refine e_cIV (hc := hw4) (rest := [.int _]) rfl rfl rfl rfl rfl rfl rfl rfl (xnm_no rfl) ?_
    refine e_iconst (x := 1) rfl (by decide) (xnm_no rfl) ?_
    refine e_icmp_ne (t := 126) rfl rfl (xnm_no rfl) (xnm_no rfl) h (fun h => ?_) (fun h => ?_)
    · refine e_iconst (x := 0) rfl (by decide) rfl ?_
      exact xlfI h
    · refine e_iconst (x := 1) rfl (by decide) (xnm_no rfl) ?_
      refine e_goto (t := 127) rfl rfl rfl ?_
      exact xlfI h
set_option maxRecDepth 4000 in
theorem bL_arrows_0_411_i (v7 : Int32) (v8 : Int32) (v9 : Int32) (s0 : Int32) (s1 : Int32) (m : xmm) {z : Int32 × xmm} (h : (if s0 = s1 then (fX11_walk_0 v7 v8 v9 m).bind fun (w1 : Int32 × xmm) => if w1.1 = (-1 : Int32) then if v9 = 0 then bL_arrows_0_486 (1 : Int32) v7 v8 v9 (1 : Int32) w1.2 else (fX11_walk_0 v7 v8 (0 : Int32) w1.2).bind fun (w3 : Int32 × xmm) => if w3.1 = (((8 : Int32) * v7) + v8) then (fX11_walk_0 v7 v8 (v9 - (1 : Int32)) w3.2).bind fun (w5 : Int32 × xmm) => if w5.1 = (((8 : Int32) * v8) + v7) then bL_arrows_0_486 (1 : Int32) v7 v8 v9 (1 : Int32) w5.2 else bL_arrows_0_486 (0 : Int32) v7 v8 v9 (1 : Int32) w5.2 else bL_arrows_0_486 (0 : Int32) v7 v8 v9 (1 : Int32) w3.2 else bL_arrows_0_486 (0 : Int32) v7 v8 v9 (1 : Int32) w1.2 else bL_arrows_0_486 (0 : Int32) v7 v8 v9 (1 : Int32) m) = some z) : bL_arrows_0_411 v7 v8 v9 s0 s1 m = some z := by
  refine xstI ?_
  show xT 167 15 411 [(0, .ref 0), (7, .int v7), (8, .int v8), (9, .int v9)] [.int s1, .int s0] m (some (.int z.1), z.2)
  refine e_icmp_ne (t := 480) rfl rfl (xnm_no rfl) (xnm_no rfl) h (fun h => ?_) (fun h => ?_)
  · refine e_iconst (x := 0) rfl (by decide) (xnm_no rfl) ?_
    refine e_istore rfl rfl (xnm_no rfl) ?_
    refine e_iconst (x := 1) rfl (by decide) (xnm_no rfl) ?_
    refine e_istore rfl rfl rfl ?_
    exact xlfI h
  · refine e_aload_n rfl rfl rfl (xnm_no rfl) ?_
    refine e_iload rfl rfl (xnm_no rfl) ?_
    refine e_iload rfl rfl (xnm_no rfl) ?_
    refine e_iload rfl rfl (xnm_no rfl) ?_
    obtain ⟨w1, hw2, h⟩ := xbd_some h
    refine e_cIV (hc := hw2) (rest := []) rfl rfl rfl rfl rfl rfl rfl rfl (xnm_no rfl) ?_
    refine e_iconst (x := -1) rfl (by decide) (xnm_no rfl) ?_
    refine e_icmp_ne (t := 480) rfl rfl (xnm_no rfl) (xnm_no rfl) h (fun h => ?_) (fun h => ?_)
    · refine e_iconst (x := 0) rfl (by decide) (xnm_no rfl) ?_
      refine e_istore rfl rfl (xnm_no rfl) ?_
      refine e_iconst (x := 1) rfl (by decide) (xnm_no rfl) ?_
      refine e_istore rfl rfl rfl ?_
      exact xlfI h
    · refine e_iload rfl rfl (xnm_no rfl) ?_
      refine e_if_eq (t := 476) rfl rfl (xnm_no rfl) (xnm_no rfl) h (fun h => ?_) (fun h => ?_)
      · refine e_iconst (x := 1) rfl (by decide) (xnm_no rfl) ?_
        refine e_goto (t := 481) rfl rfl (xnm_no rfl) ?_
        refine e_istore rfl rfl (xnm_no rfl) ?_
        refine e_iconst (x := 1) rfl (by decide) (xnm_no rfl) ?_
        refine e_istore rfl rfl rfl ?_
        exact xlfI h
      · refine e_aload_n rfl rfl rfl (xnm_no rfl) ?_
        refine e_iload rfl rfl (xnm_no rfl) ?_
        refine e_iload rfl rfl (xnm_no rfl) ?_
        refine e_iconst (x := 0) rfl (by decide) (xnm_no rfl) ?_
        obtain ⟨w3, hw4, h⟩ := xbd_some h
        refine e_cIV (hc := hw4) (rest := []) rfl rfl rfl rfl rfl rfl rfl rfl (xnm_no rfl) ?_
        refine e_bipush (x := 8) rfl (by decide) (xnm_no rfl) ?_
        refine e_iload rfl rfl (xnm_no rfl) ?_
        refine e_imul rfl (xnm_no rfl) ?_
        refine e_iload rfl rfl (xnm_no rfl) ?_
        refine e_iadd rfl (xnm_no rfl) ?_
        refine e_icmp_ne (t := 480) rfl rfl (xnm_no rfl) (xnm_no rfl) h (fun h => ?_) (fun h => ?_)
        · refine e_iconst (x := 0) rfl (by decide) (xnm_no rfl) ?_
          refine e_istore rfl rfl (xnm_no rfl) ?_
          refine e_iconst (x := 1) rfl (by decide) (xnm_no rfl) ?_
          refine e_istore rfl rfl rfl ?_
          exact xlfI h
        · refine e_aload_n rfl rfl rfl (xnm_no rfl) ?_
          refine e_iload rfl rfl (xnm_no rfl) ?_
          refine e_iload rfl rfl (xnm_no rfl) ?_
          refine e_iload rfl rfl (xnm_no rfl) ?_
          refine e_iconst (x := 1) rfl (by decide) (xnm_no rfl) ?_
          refine e_isub rfl (xnm_no rfl) ?_
          obtain ⟨w5, hw6, h⟩ := xbd_some h
          refine e_cIV (hc := hw6) (rest := []) rfl rfl rfl rfl rfl rfl rfl rfl (xnm_no rfl) ?_
          refine e_bipush (x := 8) rfl (by decide) (xnm_no rfl) ?_
          refine e_iload rfl rfl (xnm_no rfl) ?_
          refine e_imul rfl (xnm_no rfl) ?_
          refine e_iload rfl rfl (xnm_no rfl) ?_
          refine e_iadd rfl (xnm_no rfl) ?_
          refine e_icmp_ne (t := 480) rfl rfl (xnm_no rfl) (xnm_no rfl) h (fun h => ?_) (fun h => ?_)
          · refine e_iconst (x := 0) rfl (by decide) (xnm_no rfl) ?_
            refine e_istore rfl rfl (xnm_no rfl) ?_
            refine e_iconst (x := 1) rfl (by decide) (xnm_no rfl) ?_
            refine e_istore rfl rfl rfl ?_
            exact xlfI h
          · refine e_iconst (x := 1) rfl (by decide) (xnm_no rfl) ?_
            refine e_goto (t := 481) rfl rfl (xnm_no rfl) ?_
            refine e_istore rfl rfl (xnm_no rfl) ?_
            refine e_iconst (x := 1) rfl (by decide) (xnm_no rfl) ?_
            refine e_istore rfl rfl rfl ?_
            exact xlfI h
set_option maxRecDepth 4000 in
theorem bL_arrows_0_127_i (v1 : Int32) (v2 : Int32) (v3 : Int32) (s0 : Int32) (s1 : Int32) (m : xmm) {z : Int32 × xmm} (h : (if s0 = s1 then bL_arrows_0_143 v1 v2 v3 (1 : Int32) (0 : Int32) (0 : Int32) m else bL_arrows_0_134 v1 v2 v3 m) = some z) : bL_arrows_0_127 v1 v2 v3 s0 s1 m = some z := by
  refine xstI ?_
  show xT 167 15 127 [(0, .ref 0), (1, .int v1), (2, .int v2), (3, .int v3)] [.int s1, .int s0] m (some (.int z.1), z.2)
  refine e_icmp_ne (t := 134) rfl rfl rfl (xnm_no rfl) h (fun h => ?_) (fun h => ?_)
  · exact xlfI h
  · refine e_iconst (x := 1) rfl (by decide) (xnm_no rfl) ?_
    refine e_goto (t := 135) rfl rfl (xnm_no rfl) ?_
    refine e_istore rfl rfl (xnm_no rfl) ?_
    refine e_iconst (x := 0) rfl (by decide) (xnm_no rfl) ?_
    refine e_istore rfl rfl (xnm_no rfl) ?_
    refine e_iconst (x := 0) rfl (by decide) (xnm_no rfl) ?_
    refine e_istore rfl rfl rfl ?_
    exact xlfI h
set_option maxRecDepth 4000 in
theorem fX11_under_0_i (v1 : Int32) (v2 : Int32) (m : xmm) {z : Int32 × xmm} (h : ((fX3_hasPost 10 v1 m).bind fun (w1 : Int32 × xmm) => if w1.1 = 0 then some ((-1 : Int32), w1.2) else (fX3_hasPost 10 v2 w1.2).bind fun (w3 : Int32 × xmm) => if w3.1 = 0 then some ((-1 : Int32), w3.2) else (fX11_study_0 w3.2).bind fun (w5 : xmm) => (fX1_isOrdered_97 w5).bind fun (w7 : Int32 × xmm) => if w7.1 = 0 then some ((-2 : Int32), w7.2) else (fX5_isUnder_123 v1 v2 w7.2).bind fun (w9 : Int32 × xmm) => (fX11_bit w9.1 w9.2).bind fun (w11 : Int32 × xmm) => some (w11.1, w11.2)) = some z) : fX11_under_0 v1 v2 m = some z := by
  refine xstI ?_
  show xT 131 6 0 [(0, .ref 0), (1, .int v1), (2, .int v2)] [] m (some (.int z.1), z.2)
  refine e_aload_n rfl rfl rfl (xnm_no rfl) ?_
  refine e_getR (r := 10) rfl rfl rfl rfl rfl (xnm_no rfl) ?_
  refine e_iload_n rfl rfl (xnm_no rfl) ?_
  obtain ⟨w1, hw2, h⟩ := xbd_some h
  refine e_cIV (hc := hw2) (rest := []) rfl rfl rfl rfl rfl rfl rfl rfl (xnm_no rfl) ?_
  refine e_if_eq (t := 22) rfl rfl (xnm_no rfl) (xnm_no rfl) h (fun h => ?_) (fun h => ?_)
  · refine e_iconst (x := -1) rfl (by decide) (xnm_no rfl) ?_
    cases h
    exact e_retI rfl rfl
  · refine e_aload_n rfl rfl rfl (xnm_no rfl) ?_
    refine e_getR (r := 10) rfl rfl rfl rfl rfl (xnm_no rfl) ?_
    refine e_iload_n rfl rfl (xnm_no rfl) ?_
    obtain ⟨w3, hw4, h⟩ := xbd_some h
    refine e_cIV (hc := hw4) (rest := []) rfl rfl rfl rfl rfl rfl rfl rfl (xnm_no rfl) ?_
    refine e_if_ne (t := 24) rfl rfl (xnm_no rfl) (xnm_no rfl) h (fun h => ?_) (fun h => ?_)
    · refine e_aload_n rfl rfl rfl (xnm_no rfl) ?_
      obtain ⟨w5, hw6, h⟩ := xbd_some h
      refine e_cVV (hc := hw6) (rest := []) rfl rfl rfl rfl rfl rfl rfl rfl (xnm_no rfl) ?_
      refine e_aload_n rfl rfl rfl (xnm_no rfl) ?_
      refine e_getR (r := 97) rfl rfl rfl rfl rfl (xnm_no rfl) ?_
      obtain ⟨w7, hw8, h⟩ := xbd_some h
      refine e_cIV (hc := hw8) (rest := []) rfl rfl rfl rfl rfl rfl rfl rfl (xnm_no rfl) ?_
      refine e_if_ne (t := 41) rfl rfl (xnm_no rfl) (xnm_no rfl) h (fun h => ?_) (fun h => ?_)
      · refine e_aload_n rfl rfl rfl (xnm_no rfl) ?_
        refine e_getR (r := 123) rfl rfl rfl rfl rfl (xnm_no rfl) ?_
        refine e_iload_n rfl rfl (xnm_no rfl) ?_
        refine e_iload_n rfl rfl (xnm_no rfl) ?_
        obtain ⟨w9, hw10, h⟩ := xbd_some h
        refine e_cIV (hc := hw10) (rest := []) rfl rfl rfl rfl rfl rfl rfl rfl (xnm_no rfl) ?_
        obtain ⟨w11, hw12, h⟩ := xbd_some h
        refine e_cIS (hc := hw12) (rest := []) rfl rfl rfl rfl rfl rfl rfl rfl (xnm_no rfl) ?_
        cases h
        exact e_retI rfl rfl
      · refine e_bipush (x := -2) rfl (by decide) (xnm_no rfl) ?_
        cases h
        exact e_retI rfl rfl
    · refine e_iconst (x := -1) rfl (by decide) (xnm_no rfl) ?_
      cases h
      exact e_retI rfl rfl
set_option maxRecDepth 4000 in
theorem fX5_sumOfSigns_123_i (v1 : Int32) (m : xmm) {z : Int32 × xmm} (h : (bX5_sumOfSigns_123_4 v1 (0 : Int32) (0 : Int32) m) = some z) : fX5_sumOfSigns_123 v1 m = some z := by
  refine xstI ?_
  show xT 60 1 0 [(0, .ref 123), (1, .int v1)] [] m (some (.int z.1), z.2)
  refine e_iconst (x := 0) rfl (by decide) (xnm_no rfl) ?_
  refine e_istore_n rfl rfl (xnm_no rfl) ?_
  refine e_iconst (x := 0) rfl (by decide) (xnm_no rfl) ?_
  refine e_istore_n rfl rfl rfl ?_
  exact xlfI h
set_option maxRecDepth 4000 in
theorem bX5_sumOfSigns_123_4_i (v1 : Int32) (v2 : Int32) (v3 : Int32) (m : xmm) {z : Int32 × xmm} (h : (if (m.1 123 6) ≤ v3 then some (v2, m) else (fX11_contains v1 v3 m).bind fun (w1 : Int32 × xmm) => if w1.1 = 0 then bX5_sumOfSigns_123_4 v1 v2 (v3 + (1 : Int32)) w1.2 else xgd (xinb 8 v3) (bX5_sumOfSigns_123_4 v1 (v2 + (w1.2.1 128 (v3).toNatClampNeg)) (v3 + (1 : Int32)) w1.2)) = some z) : bX5_sumOfSigns_123_4 v1 v2 v3 m = some z := by
  refine xstI ?_
  show xT 60 1 4 [(0, .ref 123), (1, .int v1), (2, .int v2), (3, .int v3)] [] m (some (.int z.1), z.2)
  refine e_iload_n rfl rfl (xnm_no rfl) ?_
  refine e_aload_n rfl rfl rfl (xnm_no rfl) ?_
  refine e_getI rfl rfl rfl rfl (xnm_no rfl) ?_
  refine e_icmp_ge (t := 35) rfl rfl (xnm_no rfl) (xnm_no rfl) h (fun h => ?_) (fun h => ?_)
  · refine e_iload_n rfl rfl (xnm_no rfl) ?_
    cases h
    exact e_retI rfl rfl
  · refine e_iload_n rfl rfl (xnm_no rfl) ?_
    refine e_iload_n rfl rfl (xnm_no rfl) ?_
    obtain ⟨w1, hw2, h⟩ := xbd_some h
    refine e_cIS (hc := hw2) (rest := []) rfl rfl rfl rfl rfl rfl rfl rfl (xnm_no rfl) ?_
    refine e_if_eq (t := 29) rfl rfl (xnm_no rfl) (xnm_no rfl) h (fun h => ?_) (fun h => ?_)
    · refine e_iinc (y := 1) rfl rfl rfl (by decide) (xnm_no rfl) ?_
      refine e_goto (t := 4) rfl rfl rfl ?_
      exact xlfI h
    · refine e_iload_n rfl rfl (xnm_no rfl) ?_
      refine e_aload_n rfl rfl rfl (xnm_no rfl) ?_
      refine e_getR (r := 128) rfl rfl rfl rfl rfl (xnm_no rfl) ?_
      refine e_iload_n rfl rfl (xnm_no rfl) ?_
      obtain ⟨g3, h⟩ := xgd_some h
      refine e_iald rfl g3 (xnm_no rfl) ?_
      refine e_iadd rfl (xnm_no rfl) ?_
      refine e_istore_n rfl rfl (xnm_no rfl) ?_
      refine e_iinc (y := 1) rfl rfl rfl (by decide) (xnm_no rfl) ?_
      refine e_goto (t := 4) rfl rfl rfl ?_
      exact xlfI h
set_option maxRecDepth 4000 in
theorem fX5_signOf_123_i (v1 : Int32) (v2 : Int32) (m : xmm) {z : Int32 × xmm} (h : (if v1 = v2 then bX5_signOf_123_18 v1 v2 (0 : Int32) m else (fX5_isUnder_123 v1 v2 m).bind fun (w1 : Int32 × xmm) => if w1.1 = 0 then some ((0 : Int32), w1.2) else bX5_signOf_123_18 v1 v2 (0 : Int32) w1.2) = some z) : fX5_signOf_123 v1 v2 m = some z := by
  refine xstI ?_
  show xT 59 3 0 [(0, .ref 123), (1, .int v1), (2, .int v2)] [] m (some (.int z.1), z.2)
  refine e_iload_n rfl rfl (xnm_no rfl) ?_
  refine e_iload_n rfl rfl (xnm_no rfl) ?_
  refine e_icmp_eq (t := 16) rfl rfl (xnm_no rfl) (xnm_no rfl) h (fun h => ?_) (fun h => ?_)
  · refine e_iconst (x := 0) rfl (by decide) (xnm_no rfl) ?_
    refine e_istore_n rfl rfl rfl ?_
    exact xlfI h
  · refine e_aload_n rfl rfl rfl (xnm_no rfl) ?_
    refine e_iload_n rfl rfl (xnm_no rfl) ?_
    refine e_iload_n rfl rfl (xnm_no rfl) ?_
    obtain ⟨w1, hw2, h⟩ := xbd_some h
    refine e_cIV (hc := hw2) (rest := []) rfl rfl rfl rfl rfl rfl rfl rfl (xnm_no rfl) ?_
    refine e_if_ne (t := 16) rfl rfl (xnm_no rfl) (xnm_no rfl) h (fun h => ?_) (fun h => ?_)
    · refine e_iconst (x := 0) rfl (by decide) (xnm_no rfl) ?_
      refine e_istore_n rfl rfl rfl ?_
      exact xlfI h
    · refine e_iconst (x := 0) rfl (by decide) (xnm_no rfl) ?_
      cases h
      exact e_retI rfl rfl
set_option maxRecDepth 4000 in
theorem bX5_signOf_123_18_i (v1 : Int32) (v2 : Int32) (v3 : Int32) (m : xmm) {z : Int32 × xmm} (h : (if (8 : Int32) ≤ v3 then xgd (xinb 8 v1) (xlt (xwi m 128 (v1).toNatClampNeg (1 : Int32)) fun (m2 : xmm) => bX5_signOf_123_46 v1 v2 (0 : Int32) m2) else xgd (xinb 8 v3) (xlt (xwi m 128 (v3).toNatClampNeg (0 : Int32)) fun (m4 : xmm) => bX5_signOf_123_18 v1 v2 (v3 + (1 : Int32)) m4)) = some z) : bX5_signOf_123_18 v1 v2 v3 m = some z := by
  refine xstI ?_
  show xT 59 3 18 [(0, .ref 123), (1, .int v1), (2, .int v2), (3, .int v3)] [] m (some (.int z.1), z.2)
  refine e_iload_n rfl rfl (xnm_no rfl) ?_
  refine e_bipush (x := 8) rfl (by decide) (xnm_no rfl) ?_
  refine e_icmp_ge (t := 37) rfl rfl (xnm_no rfl) (xnm_no rfl) h (fun h => ?_) (fun h => ?_)
  · refine e_aload_n rfl rfl rfl (xnm_no rfl) ?_
    refine e_getR (r := 128) rfl rfl rfl rfl rfl (xnm_no rfl) ?_
    refine e_iload_n rfl rfl (xnm_no rfl) ?_
    refine e_iconst (x := 1) rfl (by decide) (xnm_no rfl) ?_
    obtain ⟨g1, h⟩ := xgd_some h
    refine e_iast rfl g1 (xnm_no rfl) ?_
    replace h := xlt_b h
    refine e_iconst (x := 0) rfl (by decide) (xnm_no rfl) ?_
    refine e_istore_n rfl rfl rfl ?_
    exact xlfI h
  · refine e_aload_n rfl rfl rfl (xnm_no rfl) ?_
    refine e_getR (r := 128) rfl rfl rfl rfl rfl (xnm_no rfl) ?_
    refine e_iload_n rfl rfl (xnm_no rfl) ?_
    refine e_iconst (x := 0) rfl (by decide) (xnm_no rfl) ?_
    obtain ⟨g3, h⟩ := xgd_some h
    refine e_iast rfl g3 (xnm_no rfl) ?_
    replace h := xlt_b h
    refine e_iinc (y := 1) rfl rfl rfl (by decide) (xnm_no rfl) ?_
    refine e_goto (t := 18) rfl rfl rfl ?_
    exact xlfI h
set_option maxRecDepth 4000 in
theorem bX5_signOf_123_46_i (v1 : Int32) (v2 : Int32) (v3 : Int32) (m : xmm) {z : Int32 × xmm} (h : (if (m.1 123 6) ≤ v3 then xgd (xinb 8 v2) (some ((m.1 128 (v2).toNatClampNeg), m)) else (fX5_straightAt_123 (0 : Int32) v3 m).bind fun (w2 : Int32 × xmm) => if w2.1 = (-1 : Int32) then bX5_signOf_123_46 v1 v2 (v3 + (1 : Int32)) w2.2 else (fX5_isUnder_123 v1 w2.1 w2.2).bind fun (w4 : Int32 × xmm) => if w4.1 = 0 then bX5_signOf_123_46 v1 v2 (v3 + (1 : Int32)) w4.2 else xgd (xinb 8 w2.1) ((fX5_sumOfSigns_123 (w4.2.1 125 (w2.1).toNatClampNeg) w4.2).bind fun (w7 : Int32 × xmm) => xlt (xwi w7.2 128 (w2.1).toNatClampNeg (-w7.1)) fun (m9 : xmm) => bX5_signOf_123_46 v1 v2 (v3 + (1 : Int32)) m9)) = some z) : bX5_signOf_123_46 v1 v2 v3 m = some z := by
  refine xstI ?_
  show xT 59 3 46 [(0, .ref 123), (1, .int v1), (2, .int v2), (3, .int v3)] [] m (some (.int z.1), z.2)
  refine e_iload_n rfl rfl (xnm_no rfl) ?_
  refine e_aload_n rfl rfl rfl (xnm_no rfl) ?_
  refine e_getI rfl rfl rfl rfl (xnm_no rfl) ?_
  refine e_icmp_ge (t := 103) rfl rfl (xnm_no rfl) (xnm_no rfl) h (fun h => ?_) (fun h => ?_)
  · refine e_aload_n rfl rfl rfl (xnm_no rfl) ?_
    refine e_getR (r := 128) rfl rfl rfl rfl rfl (xnm_no rfl) ?_
    refine e_iload_n rfl rfl (xnm_no rfl) ?_
    obtain ⟨g1, h⟩ := xgd_some h
    refine e_iald rfl g1 (xnm_no rfl) ?_
    cases h
    exact e_retI rfl rfl
  · refine e_aload_n rfl rfl rfl (xnm_no rfl) ?_
    refine e_iconst (x := 0) rfl (by decide) (xnm_no rfl) ?_
    refine e_iload_n rfl rfl (xnm_no rfl) ?_
    obtain ⟨w2, hw3, h⟩ := xbd_some h
    refine e_cIV (hc := hw3) (rest := []) rfl rfl rfl rfl rfl rfl rfl rfl (xnm_no rfl) ?_
    refine e_istore rfl rfl (xnm_no rfl) ?_
    refine e_iload rfl rfl (xnm_no rfl) ?_
    refine e_iconst (x := -1) rfl (by decide) (xnm_no rfl) ?_
    refine e_icmp_eq (t := 97) rfl rfl (xnm_no rfl) (xnm_no rfl) h (fun h => ?_) (fun h => ?_)
    · refine e_iinc (y := 1) rfl rfl rfl (by decide) (xnm_no rfl) ?_
      refine e_goto (t := 46) rfl rfl rfl ?_
      exact xlfI h
    · refine e_aload_n rfl rfl rfl (xnm_no rfl) ?_
      refine e_iload_n rfl rfl (xnm_no rfl) ?_
      refine e_iload rfl rfl (xnm_no rfl) ?_
      obtain ⟨w4, hw5, h⟩ := xbd_some h
      refine e_cIV (hc := hw5) (rest := []) rfl rfl rfl rfl rfl rfl rfl rfl (xnm_no rfl) ?_
      refine e_if_eq (t := 97) rfl rfl (xnm_no rfl) (xnm_no rfl) h (fun h => ?_) (fun h => ?_)
      · refine e_iinc (y := 1) rfl rfl rfl (by decide) (xnm_no rfl) ?_
        refine e_goto (t := 46) rfl rfl rfl ?_
        exact xlfI h
      · refine e_aload_n rfl rfl rfl (xnm_no rfl) ?_
        refine e_getR (r := 128) rfl rfl rfl rfl rfl (xnm_no rfl) ?_
        refine e_iload rfl rfl (xnm_no rfl) ?_
        refine e_aload_n rfl rfl rfl (xnm_no rfl) ?_
        refine e_aload_n rfl rfl rfl (xnm_no rfl) ?_
        refine e_getR (r := 125) rfl rfl rfl rfl rfl (xnm_no rfl) ?_
        refine e_iload rfl rfl (xnm_no rfl) ?_
        obtain ⟨g6, h⟩ := xgd_some h
        refine e_iald rfl g6 (xnm_no rfl) ?_
        obtain ⟨w7, hw8, h⟩ := xbd_some h
        refine e_cIV (hc := hw8) (rest := [.int _, .ref 128]) rfl rfl rfl rfl rfl rfl rfl rfl (xnm_no rfl) ?_
        refine e_ineg rfl (xnm_no rfl) ?_
        refine e_iast rfl g6 (xnm_no rfl) ?_
        replace h := xlt_b h
        refine e_iinc (y := 1) rfl rfl rfl (by decide) (xnm_no rfl) ?_
        refine e_goto (t := 46) rfl rfl rfl ?_
        exact xlfI h
set_option maxRecDepth 4000 in
theorem fX11_sign_0_i (v1 : Int32) (v2 : Int32) (m : xmm) {z : Int32 × xmm} (h : ((fX3_hasPost 10 v1 m).bind fun (w1 : Int32 × xmm) => if w1.1 = 0 then some ((-100000 : Int32), w1.2) else (fX3_hasPost 10 v2 w1.2).bind fun (w3 : Int32 × xmm) => if w3.1 = 0 then some ((-100000 : Int32), w3.2) else (fX11_study_0 w3.2).bind fun (w5 : xmm) => (fX1_isOrdered_97 w5).bind fun (w7 : Int32 × xmm) => if w7.1 = 0 then some ((-100000 : Int32), w7.2) else (fX5_signOf_123 v1 v2 w7.2).bind fun (w9 : Int32 × xmm) => some (w9.1, w9.2)) = some z) : fX11_sign_0 v1 v2 m = some z := by
  refine xstI ?_
  show xT 136 6 0 [(0, .ref 0), (1, .int v1), (2, .int v2)] [] m (some (.int z.1), z.2)
  refine e_aload_n rfl rfl rfl (xnm_no rfl) ?_
  refine e_getR (r := 10) rfl rfl rfl rfl rfl (xnm_no rfl) ?_
  refine e_iload_n rfl rfl (xnm_no rfl) ?_
  obtain ⟨w1, hw2, h⟩ := xbd_some h
  refine e_cIV (hc := hw2) (rest := []) rfl rfl rfl rfl rfl rfl rfl rfl (xnm_no rfl) ?_
  refine e_if_eq (t := 22) rfl rfl (xnm_no rfl) (xnm_no rfl) h (fun h => ?_) (fun h => ?_)
  · refine e_ldcw (v := -100000) rfl rfl (xnm_no rfl) ?_
    cases h
    exact e_retI rfl rfl
  · refine e_aload_n rfl rfl rfl (xnm_no rfl) ?_
    refine e_getR (r := 10) rfl rfl rfl rfl rfl (xnm_no rfl) ?_
    refine e_iload_n rfl rfl (xnm_no rfl) ?_
    obtain ⟨w3, hw4, h⟩ := xbd_some h
    refine e_cIV (hc := hw4) (rest := []) rfl rfl rfl rfl rfl rfl rfl rfl (xnm_no rfl) ?_
    refine e_if_ne (t := 26) rfl rfl (xnm_no rfl) (xnm_no rfl) h (fun h => ?_) (fun h => ?_)
    · refine e_aload_n rfl rfl rfl (xnm_no rfl) ?_
      obtain ⟨w5, hw6, h⟩ := xbd_some h
      refine e_cVV (hc := hw6) (rest := []) rfl rfl rfl rfl rfl rfl rfl rfl (xnm_no rfl) ?_
      refine e_aload_n rfl rfl rfl (xnm_no rfl) ?_
      refine e_getR (r := 97) rfl rfl rfl rfl rfl (xnm_no rfl) ?_
      obtain ⟨w7, hw8, h⟩ := xbd_some h
      refine e_cIV (hc := hw8) (rest := []) rfl rfl rfl rfl rfl rfl rfl rfl (xnm_no rfl) ?_
      refine e_if_eq (t := 52) rfl rfl (xnm_no rfl) (xnm_no rfl) h (fun h => ?_) (fun h => ?_)
      · refine e_ldcw (v := -100000) rfl rfl (xnm_no rfl) ?_
        cases h
        exact e_retI rfl rfl
      · refine e_aload_n rfl rfl rfl (xnm_no rfl) ?_
        refine e_getR (r := 123) rfl rfl rfl rfl rfl (xnm_no rfl) ?_
        refine e_iload_n rfl rfl (xnm_no rfl) ?_
        refine e_iload_n rfl rfl (xnm_no rfl) ?_
        obtain ⟨w9, hw10, h⟩ := xbd_some h
        refine e_cIV (hc := hw10) (rest := []) rfl rfl rfl rfl rfl rfl rfl rfl (xnm_no rfl) ?_
        refine e_goto (t := 55) rfl rfl (xnm_no rfl) ?_
        cases h
        exact e_retI rfl rfl
    · refine e_ldcw (v := -100000) rfl rfl (xnm_no rfl) ?_
      cases h
      exact e_retI rfl rfl
set_option maxRecDepth 4000 in
theorem fX11_straight_0_i (v1 : Int32) (v2 : Int32) (m : xmm) {z : Int32 × xmm} (h : (if v1 < 0 then some ((-1 : Int32), m) else (fX3_hasPost 10 v2 m).bind fun (w1 : Int32 × xmm) => if w1.1 = 0 then some ((-1 : Int32), w1.2) else (fX11_study_0 w1.2).bind fun (w3 : xmm) => (fX1_isOrdered_97 w3).bind fun (w5 : Int32 × xmm) => if w5.1 = 0 then some ((-2 : Int32), w5.2) else (fX5_straightAt_123 v1 v2 w5.2).bind fun (w7 : Int32 × xmm) => some (w7.1, w7.2)) = some z) : fX11_straight_0 v1 v2 m = some z := by
  refine xstI ?_
  show xT 135 6 0 [(0, .ref 0), (1, .int v1), (2, .int v2)] [] m (some (.int z.1), z.2)
  refine e_iload_n rfl rfl (xnm_no rfl) ?_
  refine e_if_lt (t := 15) rfl rfl (xnm_no rfl) (xnm_no rfl) h (fun h => ?_) (fun h => ?_)
  · refine e_iconst (x := -1) rfl (by decide) (xnm_no rfl) ?_
    cases h
    exact e_retI rfl rfl
  · refine e_aload_n rfl rfl rfl (xnm_no rfl) ?_
    refine e_getR (r := 10) rfl rfl rfl rfl rfl (xnm_no rfl) ?_
    refine e_iload_n rfl rfl (xnm_no rfl) ?_
    obtain ⟨w1, hw2, h⟩ := xbd_some h
    refine e_cIV (hc := hw2) (rest := []) rfl rfl rfl rfl rfl rfl rfl rfl (xnm_no rfl) ?_
    refine e_if_ne (t := 17) rfl rfl (xnm_no rfl) (xnm_no rfl) h (fun h => ?_) (fun h => ?_)
    · refine e_aload_n rfl rfl rfl (xnm_no rfl) ?_
      obtain ⟨w3, hw4, h⟩ := xbd_some h
      refine e_cVV (hc := hw4) (rest := []) rfl rfl rfl rfl rfl rfl rfl rfl (xnm_no rfl) ?_
      refine e_aload_n rfl rfl rfl (xnm_no rfl) ?_
      refine e_getR (r := 97) rfl rfl rfl rfl rfl (xnm_no rfl) ?_
      obtain ⟨w5, hw6, h⟩ := xbd_some h
      refine e_cIV (hc := hw6) (rest := []) rfl rfl rfl rfl rfl rfl rfl rfl (xnm_no rfl) ?_
      refine e_if_eq (t := 43) rfl rfl (xnm_no rfl) (xnm_no rfl) h (fun h => ?_) (fun h => ?_)
      · refine e_bipush (x := -2) rfl (by decide) (xnm_no rfl) ?_
        cases h
        exact e_retI rfl rfl
      · refine e_aload_n rfl rfl rfl (xnm_no rfl) ?_
        refine e_getR (r := 123) rfl rfl rfl rfl rfl (xnm_no rfl) ?_
        refine e_iload_n rfl rfl (xnm_no rfl) ?_
        refine e_iload_n rfl rfl (xnm_no rfl) ?_
        obtain ⟨w7, hw8, h⟩ := xbd_some h
        refine e_cIV (hc := hw8) (rest := []) rfl rfl rfl rfl rfl rfl rfl rfl (xnm_no rfl) ?_
        refine e_goto (t := 45) rfl rfl (xnm_no rfl) ?_
        cases h
        exact e_retI rfl rfl
    · refine e_iconst (x := -1) rfl (by decide) (xnm_no rfl) ?_
      cases h
      exact e_retI rfl rfl
set_option maxRecDepth 4000 in
theorem fL_orders_0_i (v1 : Int32) (m : xmm) {z : Int32 × xmm} (h : ((fX11_count_0 (0 : Int32) m).bind fun (w1 : Int32 × xmm) => (fX11_network_0 (0 : Int32) w1.2).bind fun (w3 : Int32 × xmm) => if w3.1 = 0 then (fX11_order_0 (0 : Int32) w3.2).bind fun (w5 : Int32 × xmm) => if w5.1 = (-2 : Int32) then (fX11_network_0 (4 : Int32) w5.2).bind fun (w7 : Int32 × xmm) => if w7.1 = (-2 : Int32) then some ((1 : Int32), w7.2) else some ((0 : Int32), w7.2) else some ((0 : Int32), w5.2) else bL_orders_0_58 v1 w1.1 (1 : Int32) (0 : Int32) (0 : Int32) (((1 : Int32) <<< (w1.1 &&& 31)) - (1 : Int32)) (0 : Int32) w3.2) = some z) : fL_orders_0 v1 m = some z := by
  refine xstI ?_
  show xTc 0 0 168 15 0 [(0, .ref 0), (1, .int v1)] [] m (some (.int z.1), z.2)
  refine e_aload_n rfl rfl rfl (xnm_no rfl) ?_
  refine e_iconst (x := 0) rfl (by decide) (xnm_no rfl) ?_
  obtain ⟨w1, hw2, h⟩ := xbd_some h
  refine e_cIVc (hc := hw2) (rest := []) (c2 := 0) (s2 := 0) rfl rfl rfl rfl rfl rfl rfl (xadd0 rfl) (xadd0 rfl) rfl rfl (xnm_no rfl) ?_
  refine e_istore_n rfl rfl (xnm_no rfl) ?_
  refine e_aload_n rfl rfl rfl (xnm_no rfl) ?_
  refine e_iconst (x := 0) rfl (by decide) (xnm_no rfl) ?_
  obtain ⟨w3, hw4, h⟩ := xbd_some h
  refine e_cIVc (hc := hw4) (rest := []) (c2 := 0) (s2 := 0) rfl rfl rfl rfl rfl rfl rfl (xadd0 rfl) (xadd0 rfl) rfl rfl (xnm_no rfl) ?_
  refine e_if_ne (t := 40) rfl rfl (xnm_no rfl) (xnm_no rfl) h (fun h => ?_) (fun h => ?_)
  · refine e_iconst (x := 1) rfl (by decide) (xnm_no rfl) ?_
    refine e_istore_n rfl rfl (xnm_no rfl) ?_
    refine e_iconst (x := 0) rfl (by decide) (xnm_no rfl) ?_
    refine e_istore rfl rfl (xnm_no rfl) ?_
    refine e_iconst (x := 0) rfl (by decide) (xnm_no rfl) ?_
    refine e_istore rfl rfl (xnm_no rfl) ?_
    refine e_iconst (x := 1) rfl (by decide) (xnm_no rfl) ?_
    refine e_iload_n rfl rfl (xnm_no rfl) ?_
    refine e_ishl rfl (xnm_no rfl) ?_
    refine e_iconst (x := 1) rfl (by decide) (xnm_no rfl) ?_
    refine e_isub rfl (xnm_no rfl) ?_
    refine e_istore rfl rfl (xnm_no rfl) ?_
    refine e_iconst (x := 0) rfl (by decide) (xnm_no rfl) ?_
    refine e_istore rfl rfl rfl ?_
    exact xlfIc h
  · refine e_aload_n rfl rfl rfl (xnm_no rfl) ?_
    refine e_iconst (x := 0) rfl (by decide) (xnm_no rfl) ?_
    obtain ⟨w5, hw6, h⟩ := xbd_some h
    refine e_cIVc (hc := hw6) (rest := []) (c2 := 0) (s2 := 0) rfl rfl rfl rfl rfl rfl rfl (xadd0 rfl) (xadd0 rfl) rfl rfl (xnm_no rfl) ?_
    refine e_bipush (x := -2) rfl (by decide) (xnm_no rfl) ?_
    refine e_icmp_ne (t := 38) rfl rfl (xnm_no rfl) (xnm_no rfl) h (fun h => ?_) (fun h => ?_)
    · refine e_iconst (x := 0) rfl (by decide) (xnm_no rfl) ?_
      cases h
      exact e_retIc rfl (by decide) rfl
    · refine e_aload_n rfl rfl rfl (xnm_no rfl) ?_
      refine e_iconst (x := 4) rfl (by decide) (xnm_no rfl) ?_
      obtain ⟨w7, hw8, h⟩ := xbd_some h
      refine e_cIVc (hc := hw8) (rest := []) (c2 := 0) (s2 := 0) rfl rfl rfl rfl rfl rfl rfl (xadd0 rfl) (xadd0 rfl) rfl rfl (xnm_no rfl) ?_
      refine e_bipush (x := -2) rfl (by decide) (xnm_no rfl) ?_
      refine e_icmp_ne (t := 38) rfl rfl (xnm_no rfl) (xnm_no rfl) h (fun h => ?_) (fun h => ?_)
      · refine e_iconst (x := 0) rfl (by decide) (xnm_no rfl) ?_
        cases h
        exact e_retIc rfl (by decide) rfl
      · refine e_iconst (x := 1) rfl (by decide) (xnm_no rfl) ?_
        refine e_goto (t := 39) rfl rfl (xnm_no rfl) ?_
        cases h
        exact e_retIc rfl (by decide) rfl
set_option maxRecDepth 4000 in
theorem bL_orders_0_58_i (v1 : Int32) (v2 : Int32) (v3 : Int32) (v4 : Int32) (v5 : Int32) (v6 : Int32) (v7 : Int32) (m : xmm) {z : Int32 × xmm} (h : (if v2 ≤ v7 then (fX11_count_0 (1 : Int32) m).bind fun (w1 : Int32 × xmm) => if v3 = 0 then bL_orders_0_635 v1 v2 v6 (0 : Int32) w1.2 else if v5 = w1.1 then (fX11_order_0 (2 : Int32) w1.2).bind fun (w3 : Int32 × xmm) => if v2 = 0 then bL_orders_0_495 v1 v2 v4 v6 w1.1 w3.1 (0 : Int32) w3.2 else bL_orders_0_495 v1 v2 v4 v6 w1.1 w3.1 (v4 + (1 : Int32)) w3.2 else bL_orders_0_635 v1 v2 v6 (0 : Int32) w1.2 else (fX11_post_0 v7 (1 : Int32) m).bind fun (w5 : Int32 × xmm) => (fX11_post_0 v7 (2 : Int32) w5.2).bind fun (w7 : Int32 × xmm) => if v3 = 0 then bL_orders_0_198 v1 v2 v4 v5 v6 v7 w7.1 (0 : Int32) w7.2 else if (w5.1 &&& w7.1) = 0 then (fX11_near_0 v7 w7.2).bind fun (w9 : Int32 × xmm) => if (w5.1 ||| w7.1) = w9.1 then (fX11_post_0 v7 (3 : Int32) w9.2).bind fun (w11 : Int32 × xmm) => if (w11.1 &&& (w7.1 ^^^ (-1 : Int32))) = 0 then if w7.1 = 0 then bL_orders_0_133 v1 v2 v4 v5 v6 v7 w5.1 w7.1 (1 : Int32) w11.2 else bL_orders_0_133 v1 v2 v4 v5 v6 v7 w5.1 w7.1 (0 : Int32) w11.2 else bL_orders_0_198 v1 v2 v4 v5 v6 v7 w7.1 (0 : Int32) w11.2 else bL_orders_0_198 v1 v2 v4 v5 v6 v7 w7.1 (0 : Int32) w9.2 else bL_orders_0_198 v1 v2 v4 v5 v6 v7 w7.1 (0 : Int32) w7.2) = some z) : bL_orders_0_58 v1 v2 v3 v4 v5 v6 v7 m = some z := by
  refine xstIc ?_
  show xTc 0 0 168 15 58 [(0, .ref 0), (1, .int v1), (2, .int v2), (3, .int v3), (4, .int v4), (5, .int v5), (6, .int v6), (7, .int v7)] [] m (some (.int z.1), z.2)
  refine e_iload rfl rfl (xnm_no rfl) ?_
  refine e_iload_n rfl rfl (xnm_no rfl) ?_
  refine e_icmp_ge (t := 460) rfl rfl (xnm_no rfl) (xnm_no rfl) h (fun h => ?_) (fun h => ?_)
  · refine e_aload_n rfl rfl rfl (xnm_no rfl) ?_
    refine e_iconst (x := 1) rfl (by decide) (xnm_no rfl) ?_
    obtain ⟨w1, hw2, h⟩ := xbd_some h
    refine e_cIVc (hc := hw2) (rest := []) (c2 := 0) (s2 := 0) rfl rfl rfl rfl rfl rfl rfl (xadd0 rfl) (xadd0 rfl) rfl rfl (xnm_no rfl) ?_
    refine e_istore rfl rfl (xnm_no rfl) ?_
    refine e_iload_n rfl rfl (xnm_no rfl) ?_
    refine e_if_eq (t := 634) rfl rfl (xnm_no rfl) (xnm_no rfl) h (fun h => ?_) (fun h => ?_)
    · refine e_iconst (x := 0) rfl (by decide) rfl ?_
      exact xlfIc h
    · refine e_iload rfl rfl (xnm_no rfl) ?_
      refine e_iload rfl rfl (xnm_no rfl) ?_
      refine e_icmp_ne (t := 634) rfl rfl (xnm_no rfl) (xnm_no rfl) h (fun h => ?_) (fun h => ?_)
      · refine e_iconst (x := 0) rfl (by decide) rfl ?_
        exact xlfIc h
      · refine e_aload_n rfl rfl rfl (xnm_no rfl) ?_
        refine e_iconst (x := 2) rfl (by decide) (xnm_no rfl) ?_
        obtain ⟨w3, hw4, h⟩ := xbd_some h
        refine e_cIVc (hc := hw4) (rest := []) (c2 := 0) (s2 := 0) rfl rfl rfl rfl rfl rfl rfl (xadd0 rfl) (xadd0 rfl) rfl rfl (xnm_no rfl) ?_
        refine e_iload_n rfl rfl (xnm_no rfl) ?_
        refine e_if_ne (t := 491) rfl rfl (xnm_no rfl) (xnm_no rfl) h (fun h => ?_) (fun h => ?_)
        · refine e_iload rfl rfl (xnm_no rfl) ?_
          refine e_iconst (x := 1) rfl (by decide) (xnm_no rfl) ?_
          refine e_iadd rfl rfl ?_
          exact xlfIc h
        · refine e_iconst (x := 0) rfl (by decide) (xnm_no rfl) ?_
          refine e_goto (t := 495) rfl rfl rfl ?_
          exact xlfIc h
  · refine e_aload_n rfl rfl rfl (xnm_no rfl) ?_
    refine e_iload rfl rfl (xnm_no rfl) ?_
    refine e_iconst (x := 1) rfl (by decide) (xnm_no rfl) ?_
    obtain ⟨w5, hw6, h⟩ := xbd_some h
    refine e_cIVc (hc := hw6) (rest := []) (c2 := 0) (s2 := 0) rfl rfl rfl rfl rfl rfl rfl (xadd0 rfl) (xadd0 rfl) rfl rfl (xnm_no rfl) ?_
    refine e_istore rfl rfl (xnm_no rfl) ?_
    refine e_aload_n rfl rfl rfl (xnm_no rfl) ?_
    refine e_iload rfl rfl (xnm_no rfl) ?_
    refine e_iconst (x := 2) rfl (by decide) (xnm_no rfl) ?_
    obtain ⟨w7, hw8, h⟩ := xbd_some h
    refine e_cIVc (hc := hw8) (rest := []) (c2 := 0) (s2 := 0) rfl rfl rfl rfl rfl rfl rfl (xadd0 rfl) (xadd0 rfl) rfl rfl (xnm_no rfl) ?_
    refine e_istore rfl rfl (xnm_no rfl) ?_
    refine e_iload_n rfl rfl (xnm_no rfl) ?_
    refine e_if_eq (t := 197) rfl rfl (xnm_no rfl) (xnm_no rfl) h (fun h => ?_) (fun h => ?_)
    · refine e_iconst (x := 0) rfl (by decide) rfl ?_
      exact xlfIc h
    · refine e_iload rfl rfl (xnm_no rfl) ?_
      refine e_iload rfl rfl (xnm_no rfl) ?_
      refine e_iand rfl (xnm_no rfl) ?_
      refine e_if_ne (t := 197) rfl rfl (xnm_no rfl) (xnm_no rfl) h (fun h => ?_) (fun h => ?_)
      · refine e_iconst (x := 0) rfl (by decide) rfl ?_
        exact xlfIc h
      · refine e_iload rfl rfl (xnm_no rfl) ?_
        refine e_iload rfl rfl (xnm_no rfl) ?_
        refine e_ior rfl (xnm_no rfl) ?_
        refine e_aload_n rfl rfl rfl (xnm_no rfl) ?_
        refine e_iload rfl rfl (xnm_no rfl) ?_
        obtain ⟨w9, hw10, h⟩ := xbd_some h
        refine e_cIVc (hc := hw10) (rest := [.int _]) (c2 := 0) (s2 := 0) rfl rfl rfl rfl rfl rfl rfl (xadd0 rfl) (xadd0 rfl) rfl rfl (xnm_no rfl) ?_
        refine e_icmp_ne (t := 197) rfl rfl (xnm_no rfl) (xnm_no rfl) h (fun h => ?_) (fun h => ?_)
        · refine e_iconst (x := 0) rfl (by decide) rfl ?_
          exact xlfIc h
        · refine e_aload_n rfl rfl rfl (xnm_no rfl) ?_
          refine e_iload rfl rfl (xnm_no rfl) ?_
          refine e_iconst (x := 3) rfl (by decide) (xnm_no rfl) ?_
          obtain ⟨w11, hw12, h⟩ := xbd_some h
          refine e_cIVc (hc := hw12) (rest := []) (c2 := 0) (s2 := 0) rfl rfl rfl rfl rfl rfl rfl (xadd0 rfl) (xadd0 rfl) rfl rfl (xnm_no rfl) ?_
          refine e_iload rfl rfl (xnm_no rfl) ?_
          refine e_iconst (x := -1) rfl (by decide) (xnm_no rfl) ?_
          refine e_ixor rfl (xnm_no rfl) ?_
          refine e_iand rfl (xnm_no rfl) ?_
          refine e_if_ne (t := 197) rfl rfl (xnm_no rfl) (xnm_no rfl) h (fun h => ?_) (fun h => ?_)
          · refine e_iconst (x := 0) rfl (by decide) rfl ?_
            exact xlfIc h
          · refine e_iload rfl rfl (xnm_no rfl) ?_
            refine e_if_ne (t := 132) rfl rfl (xnm_no rfl) (xnm_no rfl) h (fun h => ?_) (fun h => ?_)
            · refine e_iconst (x := 0) rfl (by decide) rfl ?_
              exact xlfIc h
            · refine e_iconst (x := 1) rfl (by decide) (xnm_no rfl) ?_
              refine e_goto (t := 133) rfl rfl rfl ?_
              exact xlfIc h
set_option maxRecDepth 4000 in
theorem bL_orders_0_635_i (v1 : Int32) (v2 : Int32) (v6 : Int32) (s0 : Int32) (m : xmm) {z : Int32 × xmm} (h : (xgd (Nat.blt (xctm m) 900) (xlt (xctm m - 1) fun (k2 : Nat) => xlt (xwn m 9) fun (m3 : xmm) => xgd (!(Nat.beq k2 1999)) (bL_orders_0_645 v1 v2 s0 v6 k2 (0 : Int32) m3))) = some z) : bL_orders_0_635 v1 v2 v6 s0 m = some z := by
  refine xstIc ?_
  show xTc 0 0 168 15 635 [(0, .ref 0), (1, .int v1), (2, .int v2), (6, .int v6)] [.int s0] m (some (.int z.1), z.2)
  refine e_istore_n rfl rfl (xnm_no rfl) ?_
  refine e_bipush (x := 9) rfl (by decide) (xnm_no rfl) ?_
  obtain ⟨g1, h⟩ := xgd_some h
  replace h := xlt_b h
  refine e_newa (n := 9) (c2 := 1) (s2 := 9) rfl rfl g1 rfl rfl rfl (xnm_no rfl) ?_
  replace h := xlt_b h
  obtain ⟨g4, h⟩ := xgd_some h
  refine e_astore rfl rfl (xnb g4) (xnm_no rfl) ?_
  refine e_iconst (x := 0) rfl (by decide) (xnm_no rfl) ?_
  refine e_istore rfl rfl rfl ?_
  exact xlfIc h
set_option maxRecDepth 4000 in
theorem bL_orders_0_495_i (v1 : Int32) (v2 : Int32) (v4 : Int32) (v6 : Int32) (v7 : Int32) (s0 : Int32) (s1 : Int32) (m : xmm) {z : Int32 × xmm} (h : (if s0 = s1 then (fX11_order_0 (7 : Int32) m).bind fun (w1 : Int32 × xmm) => if v2 = 0 then bL_orders_0_514 v1 v2 v6 v7 w1.1 (-1 : Int32) w1.2 else bL_orders_0_514 v1 v2 v6 v7 w1.1 v4 w1.2 else bL_orders_0_635 v1 v2 v6 (0 : Int32) m) = some z) : bL_orders_0_495 v1 v2 v4 v6 v7 s0 s1 m = some z := by
  refine xstIc ?_
  show xTc 0 0 168 15 495 [(0, .ref 0), (1, .int v1), (2, .int v2), (4, .int v4), (6, .int v6), (7, .int v7)] [.int s1, .int s0] m (some (.int z.1), z.2)
  refine e_icmp_ne (t := 634) rfl rfl (xnm_no rfl) (xnm_no rfl) h (fun h => ?_) (fun h => ?_)
  · refine e_iconst (x := 0) rfl (by decide) rfl ?_
    exact xlfIc h
  · refine e_aload_n rfl rfl rfl (xnm_no rfl) ?_
    refine e_bipush (x := 7) rfl (by decide) (xnm_no rfl) ?_
    obtain ⟨w1, hw2, h⟩ := xbd_some h
    refine e_cIVc (hc := hw2) (rest := []) (c2 := 0) (s2 := 0) rfl rfl rfl rfl rfl rfl rfl (xadd0 rfl) (xadd0 rfl) rfl rfl (xnm_no rfl) ?_
    refine e_iload_n rfl rfl (xnm_no rfl) ?_
    refine e_if_ne (t := 512) rfl rfl (xnm_no rfl) (xnm_no rfl) h (fun h => ?_) (fun h => ?_)
    · refine e_iload rfl rfl rfl ?_
      exact xlfIc h
    · refine e_iconst (x := -1) rfl (by decide) (xnm_no rfl) ?_
      refine e_goto (t := 514) rfl rfl rfl ?_
      exact xlfIc h
set_option maxRecDepth 4000 in
theorem bL_orders_0_198_i (v1 : Int32) (v2 : Int32) (v4 : Int32) (v5 : Int32) (v6 : Int32) (v7 : Int32) (v9 : Int32) (s0 : Int32) (m : xmm) {z : Int32 × xmm} (h : ((fX11_post_0 v7 (0 : Int32) m).bind fun (w1 : Int32 × xmm) => (fJ6_bitCount v9 w1.2).bind fun (w3 : Int32 × xmm) => bL_orders_0_226 v1 v2 s0 (if v4 < w1.1 then w1.1 else v4) (v5 + w3.1) v6 v7 v9 (0 : Int32) w3.2) = some z) : bL_orders_0_198 v1 v2 v4 v5 v6 v7 v9 s0 m = some z := by
  refine xstIc ?_
  show xTc 0 0 168 15 198 [(0, .ref 0), (1, .int v1), (2, .int v2), (4, .int v4), (5, .int v5), (6, .int v6), (7, .int v7), (9, .int v9)] [.int s0] m (some (.int z.1), z.2)
  refine e_istore_n rfl rfl (xnm_no rfl) ?_
  refine e_iload rfl rfl (xnm_no rfl) ?_
  refine e_aload_n rfl rfl rfl (xnm_no rfl) ?_
  refine e_iload rfl rfl (xnm_no rfl) ?_
  refine e_iconst (x := 0) rfl (by decide) (xnm_no rfl) ?_
  obtain ⟨w1, hw2, h⟩ := xbd_some h
  refine e_cIVc (hc := hw2) (rest := [.int _]) (c2 := 0) (s2 := 0) rfl rfl rfl rfl rfl rfl rfl (xadd0 rfl) (xadd0 rfl) rfl rfl (xnm_no rfl) ?_
  refine e_max rfl rfl rfl (xnm_no rfl) ?_
  refine e_istore rfl rfl (xnm_no rfl) ?_
  refine e_iload rfl rfl (xnm_no rfl) ?_
  refine e_iload rfl rfl (xnm_no rfl) ?_
  obtain ⟨w3, hw4, h⟩ := xbd_some h
  refine e_cISc (hc := hw4) (rest := [.int _]) (c2 := 0) (s2 := 0) rfl rfl rfl rfl rfl rfl rfl (xadd0 rfl) (xadd0 rfl) rfl rfl (xnm_no rfl) ?_
  refine e_iadd rfl (xnm_no rfl) ?_
  refine e_istore rfl rfl (xnm_no rfl) ?_
  refine e_iconst (x := 0) rfl (by decide) (xnm_no rfl) ?_
  refine e_istore rfl rfl rfl ?_
  exact xlfIc h
set_option maxRecDepth 4000 in
theorem bL_orders_0_133_i (v1 : Int32) (v2 : Int32) (v4 : Int32) (v5 : Int32) (v6 : Int32) (v7 : Int32) (v8 : Int32) (v9 : Int32) (s0 : Int32) (m : xmm) {z : Int32 × xmm} (h : ((fX11_post_0 v7 (3 : Int32) m).bind fun (w1 : Int32 × xmm) => if w1.1 = 0 then bL_orders_0_148 v1 v2 v4 v5 v6 v7 v8 v9 s0 (1 : Int32) w1.2 else bL_orders_0_148 v1 v2 v4 v5 v6 v7 v8 v9 s0 (0 : Int32) w1.2) = some z) : bL_orders_0_133 v1 v2 v4 v5 v6 v7 v8 v9 s0 m = some z := by
  refine xstIc ?_
  show xTc 0 0 168 15 133 [(0, .ref 0), (1, .int v1), (2, .int v2), (4, .int v4), (5, .int v5), (6, .int v6), (7, .int v7), (8, .int v8), (9, .int v9)] [.int s0] m (some (.int z.1), z.2)
  refine e_aload_n rfl rfl rfl (xnm_no rfl) ?_
  refine e_iload rfl rfl (xnm_no rfl) ?_
  refine e_iconst (x := 3) rfl (by decide) (xnm_no rfl) ?_
  obtain ⟨w1, hw2, h⟩ := xbd_some h
  refine e_cIVc (hc := hw2) (rest := [.int _]) (c2 := 0) (s2 := 0) rfl rfl rfl rfl rfl rfl rfl (xadd0 rfl) (xadd0 rfl) rfl rfl (xnm_no rfl) ?_
  refine e_if_ne (t := 147) rfl rfl (xnm_no rfl) (xnm_no rfl) h (fun h => ?_) (fun h => ?_)
  · refine e_iconst (x := 0) rfl (by decide) rfl ?_
    exact xlfIc h
  · refine e_iconst (x := 1) rfl (by decide) (xnm_no rfl) ?_
    refine e_goto (t := 148) rfl rfl rfl ?_
    exact xlfIc h
set_option maxRecDepth 4000 in
theorem bL_orders_0_645_i (v1 : Int32) (v2 : Int32) (v3 : Int32) (v6 : Int32) (v8 : Nat) (v9 : Int32) (m : xmm) {z : Int32 × xmm} (h : (if v2 ≤ v9 then bL_orders_0_679 v1 v2 v3 v6 v8 (0 : Int32) (0 : Int32) m else xgd (!(Nat.beq v8 1999)) ((fX11_chain_0 v9 m).bind fun (w2 : Int32 × xmm) => xgd (xir w2.2 v8 w2.1) (xlt (xwi w2.2 v8 (w2.1).toNatClampNeg ((w2.2.1 v8 (w2.1).toNatClampNeg) ||| ((1 : Int32) <<< (v9 &&& 31)))) fun (m5 : xmm) => bL_orders_0_645 v1 v2 v3 v6 v8 (v9 + (1 : Int32)) m5))) = some z) : bL_orders_0_645 v1 v2 v3 v6 v8 v9 m = some z := by
  refine xstIc ?_
  show xTc 1 9 168 15 645 [(0, .ref 0), (1, .int v1), (2, .int v2), (3, .int v3), (6, .int v6), (8, .ref v8), (9, .int v9)] [] m (some (.int z.1), z.2)
  refine e_iload rfl rfl (xnm_no rfl) ?_
  refine e_iload_n rfl rfl (xnm_no rfl) ?_
  refine e_icmp_ge (t := 673) rfl rfl (xnm_no rfl) (xnm_no rfl) h (fun h => ?_) (fun h => ?_)
  · refine e_iconst (x := 0) rfl (by decide) (xnm_no rfl) ?_
    refine e_istore rfl rfl (xnm_no rfl) ?_
    refine e_iconst (x := 0) rfl (by decide) (xnm_no rfl) ?_
    refine e_istore rfl rfl rfl ?_
    exact xlfIc h
  · obtain ⟨g1, h⟩ := xgd_some h
    refine e_aload rfl rfl (xnb g1) (xnm_no rfl) ?_
    refine e_aload_n rfl rfl rfl (xnm_no rfl) ?_
    refine e_iload rfl rfl (xnm_no rfl) ?_
    obtain ⟨w2, hw3, h⟩ := xbd_some h
    refine e_cIVc (hc := hw3) (rest := [.ref _]) (c2 := 1) (s2 := 9) rfl rfl rfl rfl rfl rfl rfl (xadd0 rfl) (xadd0 rfl) rfl rfl (xnm_no rfl) ?_
    refine e_dup2 rfl rfl rfl (xnm_no rfl) ?_
    obtain ⟨g4, h⟩ := xgd_some h
    refine e_rald rfl g4 (xnm_no rfl) ?_
    refine e_iconst (x := 1) rfl (by decide) (xnm_no rfl) ?_
    refine e_iload rfl rfl (xnm_no rfl) ?_
    refine e_ishl rfl (xnm_no rfl) ?_
    refine e_ior rfl (xnm_no rfl) ?_
    refine e_rast rfl g4 (xnm_no rfl) ?_
    replace h := xlt_b h
    refine e_iinc (y := 1) rfl rfl rfl (by decide) (xnm_no rfl) ?_
    refine e_goto (t := 645) rfl rfl rfl ?_
    exact xlfIc h
set_option maxRecDepth 4000 in
theorem bL_orders_0_514_i (v1 : Int32) (v2 : Int32) (v6 : Int32) (v7 : Int32) (s0 : Int32) (s1 : Int32) (m : xmm) {z : Int32 × xmm} (h : (if s0 = s1 then (fX11_order_0 (4 : Int32) m).bind fun (w1 : Int32 × xmm) => (fX11_order_0 (6 : Int32) w1.2).bind fun (w3 : Int32 × xmm) => if w1.1 = w3.1 then (fX11_order_0 (3 : Int32) w3.2).bind fun (w5 : Int32 × xmm) => (fX11_set_0 w5.1 (0 : Int32) w5.2).bind fun (w7 : Int32 × xmm) => if w7.1 = (1 : Int32) then (fX11_order_0 (5 : Int32) w7.2).bind fun (w9 : Int32 × xmm) => (fX11_set_0 w9.1 (1 : Int32) w9.2).bind fun (w11 : Int32 × xmm) => if w11.1 = (1 : Int32) then (fX11_order_0 (3 : Int32) w11.2).bind fun (w13 : Int32 × xmm) => (fJ6_bitCount w13.1 w13.2).bind fun (w15 : Int32 × xmm) => (fX11_order_0 (2 : Int32) w15.2).bind fun (w17 : Int32 × xmm) => if w15.1 = w17.1 then (fX11_order_0 (8 : Int32) w17.2).bind fun (w19 : Int32 × xmm) => if w19.1 < (v2 + (1 : Int32)) then bL_orders_0_635 v1 v2 v6 (0 : Int32) w19.2 else (fX11_order_0 (9 : Int32) w19.2).bind fun (w21 : Int32 × xmm) => if (if (0 : Int32) < (v2 - (1 : Int32)) then (v2 - (1 : Int32)) else (0 : Int32)) < w21.1 then bL_orders_0_635 v1 v2 v6 (0 : Int32) w21.2 else (fX11_order_0 (9 : Int32) w21.2).bind fun (w23 : Int32 × xmm) => (fX11_order_0 (6 : Int32) w23.2).bind fun (w25 : Int32 × xmm) => if w23.1 < (w25.1 - (1 : Int32)) then bL_orders_0_635 v1 v2 v6 (0 : Int32) w25.2 else (fX11_network_0 (4 : Int32) w25.2).bind fun (w27 : Int32 × xmm) => if v7 < w27.1 then bL_orders_0_635 v1 v2 v6 (0 : Int32) w27.2 else bL_orders_0_635 v1 v2 v6 (1 : Int32) w27.2 else bL_orders_0_635 v1 v2 v6 (0 : Int32) w17.2 else bL_orders_0_635 v1 v2 v6 (0 : Int32) w11.2 else bL_orders_0_635 v1 v2 v6 (0 : Int32) w7.2 else bL_orders_0_635 v1 v2 v6 (0 : Int32) w3.2 else bL_orders_0_635 v1 v2 v6 (0 : Int32) m) = some z) : bL_orders_0_514 v1 v2 v6 v7 s0 s1 m = some z := by
  refine xstIc ?_
  show xTc 0 0 168 15 514 [(0, .ref 0), (1, .int v1), (2, .int v2), (6, .int v6), (7, .int v7)] [.int s1, .int s0] m (some (.int z.1), z.2)
  refine e_icmp_ne (t := 634) rfl rfl (xnm_no rfl) (xnm_no rfl) h (fun h => ?_) (fun h => ?_)
  · refine e_iconst (x := 0) rfl (by decide) rfl ?_
    exact xlfIc h
  · refine e_aload_n rfl rfl rfl (xnm_no rfl) ?_
    refine e_iconst (x := 4) rfl (by decide) (xnm_no rfl) ?_
    obtain ⟨w1, hw2, h⟩ := xbd_some h
    refine e_cIVc (hc := hw2) (rest := []) (c2 := 0) (s2 := 0) rfl rfl rfl rfl rfl rfl rfl (xadd0 rfl) (xadd0 rfl) rfl rfl (xnm_no rfl) ?_
    refine e_aload_n rfl rfl rfl (xnm_no rfl) ?_
    refine e_bipush (x := 6) rfl (by decide) (xnm_no rfl) ?_
    obtain ⟨w3, hw4, h⟩ := xbd_some h
    refine e_cIVc (hc := hw4) (rest := [.int _]) (c2 := 0) (s2 := 0) rfl rfl rfl rfl rfl rfl rfl (xadd0 rfl) (xadd0 rfl) rfl rfl (xnm_no rfl) ?_
    refine e_icmp_ne (t := 634) rfl rfl (xnm_no rfl) (xnm_no rfl) h (fun h => ?_) (fun h => ?_)
    · refine e_iconst (x := 0) rfl (by decide) rfl ?_
      exact xlfIc h
    · refine e_aload_n rfl rfl rfl (xnm_no rfl) ?_
      refine e_aload_n rfl rfl rfl (xnm_no rfl) ?_
      refine e_iconst (x := 3) rfl (by decide) (xnm_no rfl) ?_
      obtain ⟨w5, hw6, h⟩ := xbd_some h
      refine e_cIVc (hc := hw6) (rest := [.ref 0]) (c2 := 0) (s2 := 0) rfl rfl rfl rfl rfl rfl rfl (xadd0 rfl) (xadd0 rfl) rfl rfl (xnm_no rfl) ?_
      refine e_iconst (x := 0) rfl (by decide) (xnm_no rfl) ?_
      obtain ⟨w7, hw8, h⟩ := xbd_some h
      refine e_cIVc (hc := hw8) (rest := []) (c2 := 0) (s2 := 0) rfl rfl rfl rfl rfl rfl rfl (xadd0 rfl) (xadd0 rfl) rfl rfl (xnm_no rfl) ?_
      refine e_iconst (x := 1) rfl (by decide) (xnm_no rfl) ?_
      refine e_icmp_ne (t := 634) rfl rfl (xnm_no rfl) (xnm_no rfl) h (fun h => ?_) (fun h => ?_)
      · refine e_iconst (x := 0) rfl (by decide) rfl ?_
        exact xlfIc h
      · refine e_aload_n rfl rfl rfl (xnm_no rfl) ?_
        refine e_aload_n rfl rfl rfl (xnm_no rfl) ?_
        refine e_iconst (x := 5) rfl (by decide) (xnm_no rfl) ?_
        obtain ⟨w9, hw10, h⟩ := xbd_some h
        refine e_cIVc (hc := hw10) (rest := [.ref 0]) (c2 := 0) (s2 := 0) rfl rfl rfl rfl rfl rfl rfl (xadd0 rfl) (xadd0 rfl) rfl rfl (xnm_no rfl) ?_
        refine e_iconst (x := 1) rfl (by decide) (xnm_no rfl) ?_
        obtain ⟨w11, hw12, h⟩ := xbd_some h
        refine e_cIVc (hc := hw12) (rest := []) (c2 := 0) (s2 := 0) rfl rfl rfl rfl rfl rfl rfl (xadd0 rfl) (xadd0 rfl) rfl rfl (xnm_no rfl) ?_
        refine e_iconst (x := 1) rfl (by decide) (xnm_no rfl) ?_
        refine e_icmp_ne (t := 634) rfl rfl (xnm_no rfl) (xnm_no rfl) h (fun h => ?_) (fun h => ?_)
        · refine e_iconst (x := 0) rfl (by decide) rfl ?_
          exact xlfIc h
        · refine e_aload_n rfl rfl rfl (xnm_no rfl) ?_
          refine e_iconst (x := 3) rfl (by decide) (xnm_no rfl) ?_
          obtain ⟨w13, hw14, h⟩ := xbd_some h
          refine e_cIVc (hc := hw14) (rest := []) (c2 := 0) (s2 := 0) rfl rfl rfl rfl rfl rfl rfl (xadd0 rfl) (xadd0 rfl) rfl rfl (xnm_no rfl) ?_
          obtain ⟨w15, hw16, h⟩ := xbd_some h
          refine e_cISc (hc := hw16) (rest := []) (c2 := 0) (s2 := 0) rfl rfl rfl rfl rfl rfl rfl (xadd0 rfl) (xadd0 rfl) rfl rfl (xnm_no rfl) ?_
          refine e_aload_n rfl rfl rfl (xnm_no rfl) ?_
          refine e_iconst (x := 2) rfl (by decide) (xnm_no rfl) ?_
          obtain ⟨w17, hw18, h⟩ := xbd_some h
          refine e_cIVc (hc := hw18) (rest := [.int _]) (c2 := 0) (s2 := 0) rfl rfl rfl rfl rfl rfl rfl (xadd0 rfl) (xadd0 rfl) rfl rfl (xnm_no rfl) ?_
          refine e_icmp_ne (t := 634) rfl rfl (xnm_no rfl) (xnm_no rfl) h (fun h => ?_) (fun h => ?_)
          · refine e_iconst (x := 0) rfl (by decide) rfl ?_
            exact xlfIc h
          · refine e_aload_n rfl rfl rfl (xnm_no rfl) ?_
            refine e_bipush (x := 8) rfl (by decide) (xnm_no rfl) ?_
            obtain ⟨w19, hw20, h⟩ := xbd_some h
            refine e_cIVc (hc := hw20) (rest := []) (c2 := 0) (s2 := 0) rfl rfl rfl rfl rfl rfl rfl (xadd0 rfl) (xadd0 rfl) rfl rfl (xnm_no rfl) ?_
            refine e_iload_n rfl rfl (xnm_no rfl) ?_
            refine e_iconst (x := 1) rfl (by decide) (xnm_no rfl) ?_
            refine e_iadd rfl (xnm_no rfl) ?_
            refine e_icmp_lt (t := 634) rfl rfl (xnm_no rfl) (xnm_no rfl) h (fun h => ?_) (fun h => ?_)
            · refine e_iconst (x := 0) rfl (by decide) rfl ?_
              exact xlfIc h
            · refine e_aload_n rfl rfl rfl (xnm_no rfl) ?_
              refine e_bipush (x := 9) rfl (by decide) (xnm_no rfl) ?_
              obtain ⟨w21, hw22, h⟩ := xbd_some h
              refine e_cIVc (hc := hw22) (rest := []) (c2 := 0) (s2 := 0) rfl rfl rfl rfl rfl rfl rfl (xadd0 rfl) (xadd0 rfl) rfl rfl (xnm_no rfl) ?_
              refine e_iconst (x := 0) rfl (by decide) (xnm_no rfl) ?_
              refine e_iload_n rfl rfl (xnm_no rfl) ?_
              refine e_iconst (x := 1) rfl (by decide) (xnm_no rfl) ?_
              refine e_isub rfl (xnm_no rfl) ?_
              refine e_max rfl rfl rfl (xnm_no rfl) ?_
              refine e_icmp_gt (t := 634) rfl rfl (xnm_no rfl) (xnm_no rfl) h (fun h => ?_) (fun h => ?_)
              · refine e_iconst (x := 0) rfl (by decide) rfl ?_
                exact xlfIc h
              · refine e_aload_n rfl rfl rfl (xnm_no rfl) ?_
                refine e_bipush (x := 9) rfl (by decide) (xnm_no rfl) ?_
                obtain ⟨w23, hw24, h⟩ := xbd_some h
                refine e_cIVc (hc := hw24) (rest := []) (c2 := 0) (s2 := 0) rfl rfl rfl rfl rfl rfl rfl (xadd0 rfl) (xadd0 rfl) rfl rfl (xnm_no rfl) ?_
                refine e_aload_n rfl rfl rfl (xnm_no rfl) ?_
                refine e_bipush (x := 6) rfl (by decide) (xnm_no rfl) ?_
                obtain ⟨w25, hw26, h⟩ := xbd_some h
                refine e_cIVc (hc := hw26) (rest := [.int _]) (c2 := 0) (s2 := 0) rfl rfl rfl rfl rfl rfl rfl (xadd0 rfl) (xadd0 rfl) rfl rfl (xnm_no rfl) ?_
                refine e_iconst (x := 1) rfl (by decide) (xnm_no rfl) ?_
                refine e_isub rfl (xnm_no rfl) ?_
                refine e_icmp_lt (t := 634) rfl rfl (xnm_no rfl) (xnm_no rfl) h (fun h => ?_) (fun h => ?_)
                · refine e_iconst (x := 0) rfl (by decide) rfl ?_
                  exact xlfIc h
                · refine e_aload_n rfl rfl rfl (xnm_no rfl) ?_
                  refine e_iconst (x := 4) rfl (by decide) (xnm_no rfl) ?_
                  obtain ⟨w27, hw28, h⟩ := xbd_some h
                  refine e_cIVc (hc := hw28) (rest := []) (c2 := 0) (s2 := 0) rfl rfl rfl rfl rfl rfl rfl (xadd0 rfl) (xadd0 rfl) rfl rfl (xnm_no rfl) ?_
                  refine e_iload rfl rfl (xnm_no rfl) ?_
                  refine e_icmp_gt (t := 634) rfl rfl (xnm_no rfl) (xnm_no rfl) h (fun h => ?_) (fun h => ?_)
                  · refine e_iconst (x := 0) rfl (by decide) rfl ?_
                    exact xlfIc h
                  · refine e_iconst (x := 1) rfl (by decide) (xnm_no rfl) ?_
                    refine e_goto (t := 635) rfl rfl rfl ?_
                    exact xlfIc h
set_option maxRecDepth 4000 in
theorem bL_orders_0_226_i (v1 : Int32) (v2 : Int32) (v3 : Int32) (v4 : Int32) (v5 : Int32) (v6 : Int32) (v7 : Int32) (v9 : Int32) (v10 : Int32) (m : xmm) {z : Int32 × xmm} (h : (if v2 ≤ v10 then bL_orders_0_58 v1 v2 v3 v4 v5 v6 (v7 + (1 : Int32)) m else if ((v9 >>> (v10 &&& 31)) &&& (1 : Int32)) = 0 then bL_orders_0_226 v1 v2 v3 v4 v5 v6 v7 v9 (v10 + (1 : Int32)) m else if v3 = 0 then bL_orders_0_326 v1 v2 v4 v5 v6 v7 v9 v10 (0 : Int32) m else (fX11_post_0 v10 (2 : Int32) m).bind fun (w1 : Int32 × xmm) => if (w1.1 &&& (v9 ^^^ (-1 : Int32))) = 0 then (fX11_under_0 v7 v10 w1.2).bind fun (w3 : Int32 × xmm) => if w3.1 = (1 : Int32) then (fX11_under_0 v10 v7 w3.2).bind fun (w5 : Int32 × xmm) => if w5.1 = 0 then (fX11_post_0 v7 (0 : Int32) w5.2).bind fun (w7 : Int32 × xmm) => (fX11_post_0 v10 (0 : Int32) w7.2).bind fun (w9 : Int32 × xmm) => if w9.1 ≤ w7.1 then bL_orders_0_326 v1 v2 v4 v5 v6 v7 v9 v10 (0 : Int32) w9.2 else (fX11_post_0 v7 (4 : Int32) w9.2).bind fun (w11 : Int32 × xmm) => (fX11_post_0 v10 (4 : Int32) w11.2).bind fun (w13 : Int32 × xmm) => if w13.1 ≤ w11.1 then bL_orders_0_326 v1 v2 v4 v5 v6 v7 v9 v10 (0 : Int32) w13.2 else bL_orders_0_326 v1 v2 v4 v5 v6 v7 v9 v10 (1 : Int32) w13.2 else bL_orders_0_326 v1 v2 v4 v5 v6 v7 v9 v10 (0 : Int32) w5.2 else bL_orders_0_326 v1 v2 v4 v5 v6 v7 v9 v10 (0 : Int32) w3.2 else bL_orders_0_326 v1 v2 v4 v5 v6 v7 v9 v10 (0 : Int32) w1.2) = some z) : bL_orders_0_226 v1 v2 v3 v4 v5 v6 v7 v9 v10 m = some z := by
  refine xstIc ?_
  show xTc 0 0 168 15 226 [(0, .ref 0), (1, .int v1), (2, .int v2), (3, .int v3), (4, .int v4), (5, .int v5), (6, .int v6), (7, .int v7), (9, .int v9), (10, .int v10)] [] m (some (.int z.1), z.2)
  refine e_iload rfl rfl (xnm_no rfl) ?_
  refine e_iload_n rfl rfl (xnm_no rfl) ?_
  refine e_icmp_ge (t := 454) rfl rfl (xnm_no rfl) (xnm_no rfl) h (fun h => ?_) (fun h => ?_)
  · refine e_iinc (y := 1) rfl rfl rfl (by decide) (xnm_no rfl) ?_
    refine e_goto (t := 58) rfl rfl rfl ?_
    exact xlfIc h
  · refine e_iload rfl rfl (xnm_no rfl) ?_
    refine e_iload rfl rfl (xnm_no rfl) ?_
    refine e_ishr rfl (xnm_no rfl) ?_
    refine e_iconst (x := 1) rfl (by decide) (xnm_no rfl) ?_
    refine e_iand rfl (xnm_no rfl) ?_
    refine e_if_ne (t := 245) rfl rfl (xnm_no rfl) (xnm_no rfl) h (fun h => ?_) (fun h => ?_)
    · refine e_iload_n rfl rfl (xnm_no rfl) ?_
      refine e_if_eq (t := 325) rfl rfl (xnm_no rfl) (xnm_no rfl) h (fun h => ?_) (fun h => ?_)
      · refine e_iconst (x := 0) rfl (by decide) rfl ?_
        exact xlfIc h
      · refine e_aload_n rfl rfl rfl (xnm_no rfl) ?_
        refine e_iload rfl rfl (xnm_no rfl) ?_
        refine e_iconst (x := 2) rfl (by decide) (xnm_no rfl) ?_
        obtain ⟨w1, hw2, h⟩ := xbd_some h
        refine e_cIVc (hc := hw2) (rest := []) (c2 := 0) (s2 := 0) rfl rfl rfl rfl rfl rfl rfl (xadd0 rfl) (xadd0 rfl) rfl rfl (xnm_no rfl) ?_
        refine e_iload rfl rfl (xnm_no rfl) ?_
        refine e_iconst (x := -1) rfl (by decide) (xnm_no rfl) ?_
        refine e_ixor rfl (xnm_no rfl) ?_
        refine e_iand rfl (xnm_no rfl) ?_
        refine e_if_ne (t := 325) rfl rfl (xnm_no rfl) (xnm_no rfl) h (fun h => ?_) (fun h => ?_)
        · refine e_iconst (x := 0) rfl (by decide) rfl ?_
          exact xlfIc h
        · refine e_aload_n rfl rfl rfl (xnm_no rfl) ?_
          refine e_iload rfl rfl (xnm_no rfl) ?_
          refine e_iload rfl rfl (xnm_no rfl) ?_
          obtain ⟨w3, hw4, h⟩ := xbd_some h
          refine e_cIVc (hc := hw4) (rest := []) (c2 := 0) (s2 := 0) rfl rfl rfl rfl rfl rfl rfl (xadd0 rfl) (xadd0 rfl) rfl rfl (xnm_no rfl) ?_
          refine e_iconst (x := 1) rfl (by decide) (xnm_no rfl) ?_
          refine e_icmp_ne (t := 325) rfl rfl (xnm_no rfl) (xnm_no rfl) h (fun h => ?_) (fun h => ?_)
          · refine e_iconst (x := 0) rfl (by decide) rfl ?_
            exact xlfIc h
          · refine e_aload_n rfl rfl rfl (xnm_no rfl) ?_
            refine e_iload rfl rfl (xnm_no rfl) ?_
            refine e_iload rfl rfl (xnm_no rfl) ?_
            obtain ⟨w5, hw6, h⟩ := xbd_some h
            refine e_cIVc (hc := hw6) (rest := []) (c2 := 0) (s2 := 0) rfl rfl rfl rfl rfl rfl rfl (xadd0 rfl) (xadd0 rfl) rfl rfl (xnm_no rfl) ?_
            refine e_if_ne (t := 325) rfl rfl (xnm_no rfl) (xnm_no rfl) h (fun h => ?_) (fun h => ?_)
            · refine e_iconst (x := 0) rfl (by decide) rfl ?_
              exact xlfIc h
            · refine e_aload_n rfl rfl rfl (xnm_no rfl) ?_
              refine e_iload rfl rfl (xnm_no rfl) ?_
              refine e_iconst (x := 0) rfl (by decide) (xnm_no rfl) ?_
              obtain ⟨w7, hw8, h⟩ := xbd_some h
              refine e_cIVc (hc := hw8) (rest := []) (c2 := 0) (s2 := 0) rfl rfl rfl rfl rfl rfl rfl (xadd0 rfl) (xadd0 rfl) rfl rfl (xnm_no rfl) ?_
              refine e_aload_n rfl rfl rfl (xnm_no rfl) ?_
              refine e_iload rfl rfl (xnm_no rfl) ?_
              refine e_iconst (x := 0) rfl (by decide) (xnm_no rfl) ?_
              obtain ⟨w9, hw10, h⟩ := xbd_some h
              refine e_cIVc (hc := hw10) (rest := [.int _]) (c2 := 0) (s2 := 0) rfl rfl rfl rfl rfl rfl rfl (xadd0 rfl) (xadd0 rfl) rfl rfl (xnm_no rfl) ?_
              refine e_icmp_ge (t := 325) rfl rfl (xnm_no rfl) (xnm_no rfl) h (fun h => ?_) (fun h => ?_)
              · refine e_iconst (x := 0) rfl (by decide) rfl ?_
                exact xlfIc h
              · refine e_aload_n rfl rfl rfl (xnm_no rfl) ?_
                refine e_iload rfl rfl (xnm_no rfl) ?_
                refine e_iconst (x := 4) rfl (by decide) (xnm_no rfl) ?_
                obtain ⟨w11, hw12, h⟩ := xbd_some h
                refine e_cIVc (hc := hw12) (rest := []) (c2 := 0) (s2 := 0) rfl rfl rfl rfl rfl rfl rfl (xadd0 rfl) (xadd0 rfl) rfl rfl (xnm_no rfl) ?_
                refine e_aload_n rfl rfl rfl (xnm_no rfl) ?_
                refine e_iload rfl rfl (xnm_no rfl) ?_
                refine e_iconst (x := 4) rfl (by decide) (xnm_no rfl) ?_
                obtain ⟨w13, hw14, h⟩ := xbd_some h
                refine e_cIVc (hc := hw14) (rest := [.int _]) (c2 := 0) (s2 := 0) rfl rfl rfl rfl rfl rfl rfl (xadd0 rfl) (xadd0 rfl) rfl rfl (xnm_no rfl) ?_
                refine e_icmp_ge (t := 325) rfl rfl (xnm_no rfl) (xnm_no rfl) h (fun h => ?_) (fun h => ?_)
                · refine e_iconst (x := 0) rfl (by decide) rfl ?_
                  exact xlfIc h
                · refine e_iconst (x := 1) rfl (by decide) (xnm_no rfl) ?_
                  refine e_goto (t := 326) rfl rfl rfl ?_
                  exact xlfIc h
    · refine e_goto (t := 448) rfl rfl (xnm_no rfl) ?_
      refine e_iinc (y := 1) rfl rfl rfl (by decide) (xnm_no rfl) ?_
      refine e_goto (t := 226) rfl rfl rfl ?_
      exact xlfIc h
set_option maxRecDepth 4000 in
theorem bL_orders_0_148_i (v1 : Int32) (v2 : Int32) (v4 : Int32) (v5 : Int32) (v6 : Int32) (v7 : Int32) (v8 : Int32) (v9 : Int32) (s0 : Int32) (s1 : Int32) (m : xmm) {z : Int32 × xmm} (h : (if s0 = s1 then (fX11_post_0 v7 (4 : Int32) m).bind fun (w1 : Int32 × xmm) => (fJ6_bitCount v8 w1.2).bind fun (w3 : Int32 × xmm) => if w1.1 < w3.1 then bL_orders_0_198 v1 v2 v4 v5 v6 v7 v9 (0 : Int32) w3.2 else (fX11_post_0 v7 (0 : Int32) w3.2).bind fun (w5 : Int32 × xmm) => (fJ6_bitCount v8 w5.2).bind fun (w7 : Int32 × xmm) => if w7.1 < w5.1 then bL_orders_0_198 v1 v2 v4 v5 v6 v7 v9 (0 : Int32) w7.2 else (fX11_sign_0 v7 v7 w7.2).bind fun (w9 : Int32 × xmm) => if w9.1 = (1 : Int32) then bL_orders_0_198 v1 v2 v4 v5 v6 v7 v9 (1 : Int32) w9.2 else bL_orders_0_198 v1 v2 v4 v5 v6 v7 v9 (0 : Int32) w9.2 else bL_orders_0_198 v1 v2 v4 v5 v6 v7 v9 (0 : Int32) m) = some z) : bL_orders_0_148 v1 v2 v4 v5 v6 v7 v8 v9 s0 s1 m = some z := by
  refine xstIc ?_
  show xTc 0 0 168 15 148 [(0, .ref 0), (1, .int v1), (2, .int v2), (4, .int v4), (5, .int v5), (6, .int v6), (7, .int v7), (8, .int v8), (9, .int v9)] [.int s1, .int s0] m (some (.int z.1), z.2)
  refine e_icmp_ne (t := 197) rfl rfl (xnm_no rfl) (xnm_no rfl) h (fun h => ?_) (fun h => ?_)
  · refine e_iconst (x := 0) rfl (by decide) rfl ?_
    exact xlfIc h
  · refine e_aload_n rfl rfl rfl (xnm_no rfl) ?_
    refine e_iload rfl rfl (xnm_no rfl) ?_
    refine e_iconst (x := 4) rfl (by decide) (xnm_no rfl) ?_
    obtain ⟨w1, hw2, h⟩ := xbd_some h
    refine e_cIVc (hc := hw2) (rest := []) (c2 := 0) (s2 := 0) rfl rfl rfl rfl rfl rfl rfl (xadd0 rfl) (xadd0 rfl) rfl rfl (xnm_no rfl) ?_
    refine e_iload rfl rfl (xnm_no rfl) ?_
    obtain ⟨w3, hw4, h⟩ := xbd_some h
    refine e_cISc (hc := hw4) (rest := [.int _]) (c2 := 0) (s2 := 0) rfl rfl rfl rfl rfl rfl rfl (xadd0 rfl) (xadd0 rfl) rfl rfl (xnm_no rfl) ?_
    refine e_icmp_lt (t := 197) rfl rfl (xnm_no rfl) (xnm_no rfl) h (fun h => ?_) (fun h => ?_)
    · refine e_iconst (x := 0) rfl (by decide) rfl ?_
      exact xlfIc h
    · refine e_aload_n rfl rfl rfl (xnm_no rfl) ?_
      refine e_iload rfl rfl (xnm_no rfl) ?_
      refine e_iconst (x := 0) rfl (by decide) (xnm_no rfl) ?_
      obtain ⟨w5, hw6, h⟩ := xbd_some h
      refine e_cIVc (hc := hw6) (rest := []) (c2 := 0) (s2 := 0) rfl rfl rfl rfl rfl rfl rfl (xadd0 rfl) (xadd0 rfl) rfl rfl (xnm_no rfl) ?_
      refine e_iload rfl rfl (xnm_no rfl) ?_
      obtain ⟨w7, hw8, h⟩ := xbd_some h
      refine e_cISc (hc := hw8) (rest := [.int _]) (c2 := 0) (s2 := 0) rfl rfl rfl rfl rfl rfl rfl (xadd0 rfl) (xadd0 rfl) rfl rfl (xnm_no rfl) ?_
      refine e_icmp_gt (t := 197) rfl rfl (xnm_no rfl) (xnm_no rfl) h (fun h => ?_) (fun h => ?_)
      · refine e_iconst (x := 0) rfl (by decide) rfl ?_
        exact xlfIc h
      · refine e_aload_n rfl rfl rfl (xnm_no rfl) ?_
        refine e_iload rfl rfl (xnm_no rfl) ?_
        refine e_iload rfl rfl (xnm_no rfl) ?_
        obtain ⟨w9, hw10, h⟩ := xbd_some h
        refine e_cIVc (hc := hw10) (rest := []) (c2 := 0) (s2 := 0) rfl rfl rfl rfl rfl rfl rfl (xadd0 rfl) (xadd0 rfl) rfl rfl (xnm_no rfl) ?_
        refine e_iconst (x := 1) rfl (by decide) (xnm_no rfl) ?_
        refine e_icmp_ne (t := 197) rfl rfl (xnm_no rfl) (xnm_no rfl) h (fun h => ?_) (fun h => ?_)
        · refine e_iconst (x := 0) rfl (by decide) rfl ?_
          exact xlfIc h
        · refine e_iconst (x := 1) rfl (by decide) (xnm_no rfl) ?_
          refine e_goto (t := 198) rfl rfl rfl ?_
          exact xlfIc h
set_option maxRecDepth 4000 in
theorem bL_orders_0_679_i (v1 : Int32) (v2 : Int32) (v3 : Int32) (v6 : Int32) (v8 : Nat) (v9 : Int32) (v10 : Int32) (m : xmm) {z : Int32 × xmm} (h : ((fX11_order_0 (6 : Int32) m).bind fun (w1 : Int32 × xmm) => if w1.1 ≤ v10 then if v3 = 0 then bL_orders_0_754 v1 v2 v6 (0 : Int32) w1.2 else if v9 = v6 then bL_orders_0_754 v1 v2 v6 (1 : Int32) w1.2 else bL_orders_0_754 v1 v2 v6 (0 : Int32) w1.2 else if v3 = 0 then bL_orders_0_721 v1 v2 v6 v8 v9 v10 (0 : Int32) w1.2 else xgd (!(Nat.beq v8 1999)) (xgd (xir w1.2 v8 v10) (if (w1.2.1 v8 (v10).toNatClampNeg) = 0 then bL_orders_0_721 v1 v2 v6 v8 v9 v10 (0 : Int32) w1.2 else (fX11_set_0 (w1.2.1 v8 (v10).toNatClampNeg) (0 : Int32) w1.2).bind fun (w5 : Int32 × xmm) => if w5.1 = (1 : Int32) then bL_orders_0_721 v1 v2 v6 v8 v9 v10 (1 : Int32) w5.2 else bL_orders_0_721 v1 v2 v6 v8 v9 v10 (0 : Int32) w5.2))) = some z) : bL_orders_0_679 v1 v2 v3 v6 v8 v9 v10 m = some z := by
  refine xstIc ?_
  show xTc 1 9 168 15 679 [(0, .ref 0), (1, .int v1), (2, .int v2), (3, .int v3), (6, .int v6), (8, .ref v8), (9, .int v9), (10, .int v10)] [] m (some (.int z.1), z.2)
  refine e_iload rfl rfl (xnm_no rfl) ?_
  refine e_aload_n rfl rfl rfl (xnm_no rfl) ?_
  refine e_bipush (x := 6) rfl (by decide) (xnm_no rfl) ?_
  obtain ⟨w1, hw2, h⟩ := xbd_some h
  refine e_cIVc (hc := hw2) (rest := [.int _]) (c2 := 1) (s2 := 9) rfl rfl rfl rfl rfl rfl rfl (xadd0 rfl) (xadd0 rfl) rfl rfl (xnm_no rfl) ?_
  refine e_icmp_ge (t := 738) rfl rfl (xnm_no rfl) (xnm_no rfl) h (fun h => ?_) (fun h => ?_)
  · refine e_iload_n rfl rfl (xnm_no rfl) ?_
    refine e_if_eq (t := 753) rfl rfl (xnm_no rfl) (xnm_no rfl) h (fun h => ?_) (fun h => ?_)
    · refine e_iconst (x := 0) rfl (by decide) rfl ?_
      exact xlfIc h
    · refine e_iload rfl rfl (xnm_no rfl) ?_
      refine e_iload rfl rfl (xnm_no rfl) ?_
      refine e_icmp_ne (t := 753) rfl rfl (xnm_no rfl) (xnm_no rfl) h (fun h => ?_) (fun h => ?_)
      · refine e_iconst (x := 0) rfl (by decide) rfl ?_
        exact xlfIc h
      · refine e_iconst (x := 1) rfl (by decide) (xnm_no rfl) ?_
        refine e_goto (t := 754) rfl rfl rfl ?_
        exact xlfIc h
  · refine e_iload_n rfl rfl (xnm_no rfl) ?_
    refine e_if_eq (t := 720) rfl rfl (xnm_no rfl) (xnm_no rfl) h (fun h => ?_) (fun h => ?_)
    · refine e_iconst (x := 0) rfl (by decide) rfl ?_
      exact xlfIc h
    · obtain ⟨g3, h⟩ := xgd_some h
      refine e_aload rfl rfl (xnb g3) (xnm_no rfl) ?_
      refine e_iload rfl rfl (xnm_no rfl) ?_
      obtain ⟨g4, h⟩ := xgd_some h
      refine e_rald rfl g4 (xnm_no rfl) ?_
      refine e_if_eq (t := 720) rfl rfl (xnm_no rfl) (xnm_no rfl) h (fun h => ?_) (fun h => ?_)
      · refine e_iconst (x := 0) rfl (by decide) rfl ?_
        exact xlfIc h
      · refine e_aload_n rfl rfl rfl (xnm_no rfl) ?_
        refine e_aload rfl rfl (xnb g3) (xnm_no rfl) ?_
        refine e_iload rfl rfl (xnm_no rfl) ?_
        refine e_rald rfl g4 (xnm_no rfl) ?_
        refine e_iconst (x := 0) rfl (by decide) (xnm_no rfl) ?_
        obtain ⟨w5, hw6, h⟩ := xbd_some h
        refine e_cIVc (hc := hw6) (rest := []) (c2 := 1) (s2 := 9) rfl rfl rfl rfl rfl rfl rfl (xadd0 rfl) (xadd0 rfl) rfl rfl (xnm_no rfl) ?_
        refine e_iconst (x := 1) rfl (by decide) (xnm_no rfl) ?_
        refine e_icmp_ne (t := 720) rfl rfl (xnm_no rfl) (xnm_no rfl) h (fun h => ?_) (fun h => ?_)
        · refine e_iconst (x := 0) rfl (by decide) rfl ?_
          exact xlfIc h
        · refine e_iconst (x := 1) rfl (by decide) (xnm_no rfl) ?_
          refine e_goto (t := 721) rfl rfl rfl ?_
          exact xlfIc h
set_option maxRecDepth 4000 in
theorem bL_orders_0_326_i (v1 : Int32) (v2 : Int32) (v4 : Int32) (v5 : Int32) (v6 : Int32) (v7 : Int32) (v9 : Int32) (v10 : Int32) (s0 : Int32) (m : xmm) {z : Int32 × xmm} (h : ((fX11_post_0 v7 (3 : Int32) m).bind fun (w1 : Int32 × xmm) => if ((w1.1 >>> (v10 &&& 31)) &&& (1 : Int32)) = (1 : Int32) then if s0 = 0 then bL_orders_0_363 v1 v2 v4 v5 v6 v7 v9 v10 w1.2 else (fX11_sign_0 v7 v10 w1.2).bind fun (w3 : Int32 × xmm) => if w3.1 = (-1 : Int32) then bL_orders_0_371 v1 v2 (1 : Int32) v4 v5 v6 v7 v9 v10 (0 : Int32) (0 : Int32) w3.2 else bL_orders_0_363 v1 v2 v4 v5 v6 v7 v9 v10 w3.2 else bL_orders_0_371 v1 v2 s0 v4 v5 v6 v7 v9 v10 (0 : Int32) (0 : Int32) w1.2) = some z) : bL_orders_0_326 v1 v2 v4 v5 v6 v7 v9 v10 s0 m = some z := by
  refine xstIc ?_
  show xTc 0 0 168 15 326 [(0, .ref 0), (1, .int v1), (2, .int v2), (4, .int v4), (5, .int v5), (6, .int v6), (7, .int v7), (9, .int v9), (10, .int v10)] [.int s0] m (some (.int z.1), z.2)
  refine e_istore_n rfl rfl (xnm_no rfl) ?_
  refine e_aload_n rfl rfl rfl (xnm_no rfl) ?_
  refine e_iload rfl rfl (xnm_no rfl) ?_
  refine e_iconst (x := 3) rfl (by decide) (xnm_no rfl) ?_
  obtain ⟨w1, hw2, h⟩ := xbd_some h
  refine e_cIVc (hc := hw2) (rest := []) (c2 := 0) (s2 := 0) rfl rfl rfl rfl rfl rfl rfl (xadd0 rfl) (xadd0 rfl) rfl rfl (xnm_no rfl) ?_
  refine e_iload rfl rfl (xnm_no rfl) ?_
  refine e_ishr rfl (xnm_no rfl) ?_
  refine e_iconst (x := 1) rfl (by decide) (xnm_no rfl) ?_
  refine e_iand rfl (xnm_no rfl) ?_
  refine e_iconst (x := 1) rfl (by decide) (xnm_no rfl) ?_
  refine e_icmp_ne (t := 365) rfl rfl (xnm_no rfl) (xnm_no rfl) h (fun h => ?_) (fun h => ?_)
  · refine e_iconst (x := 0) rfl (by decide) (xnm_no rfl) ?_
    refine e_istore rfl rfl (xnm_no rfl) ?_
    refine e_iconst (x := 0) rfl (by decide) (xnm_no rfl) ?_
    refine e_istore rfl rfl rfl ?_
    exact xlfIc h
  · refine e_iload_n rfl rfl (xnm_no rfl) ?_
    refine e_if_eq (t := 363) rfl rfl rfl (xnm_no rfl) h (fun h => ?_) (fun h => ?_)
    · exact xlfIc h
    · refine e_aload_n rfl rfl rfl (xnm_no rfl) ?_
      refine e_iload rfl rfl (xnm_no rfl) ?_
      refine e_iload rfl rfl (xnm_no rfl) ?_
      obtain ⟨w3, hw4, h⟩ := xbd_some h
      refine e_cIVc (hc := hw4) (rest := []) (c2 := 0) (s2 := 0) rfl rfl rfl rfl rfl rfl rfl (xadd0 rfl) (xadd0 rfl) rfl rfl (xnm_no rfl) ?_
      refine e_iconst (x := -1) rfl (by decide) (xnm_no rfl) ?_
      refine e_icmp_ne (t := 363) rfl rfl rfl (xnm_no rfl) h (fun h => ?_) (fun h => ?_)
      · exact xlfIc h
      · refine e_iconst (x := 1) rfl (by decide) (xnm_no rfl) ?_
        refine e_goto (t := 364) rfl rfl (xnm_no rfl) ?_
        refine e_istore_n rfl rfl (xnm_no rfl) ?_
        refine e_iconst (x := 0) rfl (by decide) (xnm_no rfl) ?_
        refine e_istore rfl rfl (xnm_no rfl) ?_
        refine e_iconst (x := 0) rfl (by decide) (xnm_no rfl) ?_
        refine e_istore rfl rfl rfl ?_
        exact xlfIc h
set_option maxRecDepth 4000 in
theorem bL_orders_0_754_i (v1 : Int32) (v2 : Int32) (v6 : Int32) (s0 : Int32) (m : xmm) {z : Int32 × xmm} (h : ((fX11_order_0 (0 : Int32) m).bind fun (w1 : Int32 × xmm) => xgd (!(decide (w1.1 = 0))) (bL_orders_0_774 v2 s0 v6 (v1 - v1 / w1.1 * w1.1) (0 : Int32) (0 : Int32) w1.2)) = some z) : bL_orders_0_754 v1 v2 v6 s0 m = some z := by
  refine xstIc ?_
  show xTc 1 9 168 15 754 [(0, .ref 0), (1, .int v1), (2, .int v2), (6, .int v6)] [.int s0] m (some (.int z.1), z.2)
  refine e_istore_n rfl rfl (xnm_no rfl) ?_
  refine e_aload_n rfl rfl rfl (xnm_no rfl) ?_
  refine e_iconst (x := 0) rfl (by decide) (xnm_no rfl) ?_
  obtain ⟨w1, hw2, h⟩ := xbd_some h
  refine e_cIVc (hc := hw2) (rest := []) (c2 := 1) (s2 := 9) rfl rfl rfl rfl rfl rfl rfl (xadd0 rfl) (xadd0 rfl) rfl rfl (xnm_no rfl) ?_
  refine e_istore rfl rfl (xnm_no rfl) ?_
  refine e_iload_n rfl rfl (xnm_no rfl) ?_
  refine e_iload rfl rfl (xnm_no rfl) ?_
  obtain ⟨g3, h⟩ := xgd_some h
  refine e_irem rfl (xnz g3) (xnm_no rfl) ?_
  refine e_istore rfl rfl (xnm_no rfl) ?_
  refine e_iconst (x := 0) rfl (by decide) (xnm_no rfl) ?_
  refine e_istore rfl rfl (xnm_no rfl) ?_
  refine e_iconst (x := 0) rfl (by decide) (xnm_no rfl) ?_
  refine e_istore rfl rfl rfl ?_
  exact xlfIc h
set_option maxRecDepth 4000 in
theorem bL_orders_0_721_i (v1 : Int32) (v2 : Int32) (v6 : Int32) (v8 : Nat) (v9 : Int32) (v10 : Int32) (s0 : Int32) (m : xmm) {z : Int32 × xmm} (h : (xgd (!(Nat.beq v8 1999)) (xgd (xir m v8 v10) (bL_orders_0_679 v1 v2 s0 v6 v8 (v9 ||| (m.1 v8 (v10).toNatClampNeg)) (v10 + (1 : Int32)) m))) = some z) : bL_orders_0_721 v1 v2 v6 v8 v9 v10 s0 m = some z := by
  refine xstIc ?_
  show xTc 1 9 168 15 721 [(0, .ref 0), (1, .int v1), (2, .int v2), (6, .int v6), (8, .ref v8), (9, .int v9), (10, .int v10)] [.int s0] m (some (.int z.1), z.2)
  refine e_istore_n rfl rfl (xnm_no rfl) ?_
  refine e_iload rfl rfl (xnm_no rfl) ?_
  obtain ⟨g1, h⟩ := xgd_some h
  refine e_aload rfl rfl (xnb g1) (xnm_no rfl) ?_
  refine e_iload rfl rfl (xnm_no rfl) ?_
  obtain ⟨g2, h⟩ := xgd_some h
  refine e_rald rfl g2 (xnm_no rfl) ?_
  refine e_ior rfl (xnm_no rfl) ?_
  refine e_istore rfl rfl (xnm_no rfl) ?_
  refine e_iinc (y := 1) rfl rfl rfl (by decide) (xnm_no rfl) ?_
  refine e_goto (t := 679) rfl rfl rfl ?_
  exact xlfIc h
set_option maxRecDepth 4000 in
theorem bL_orders_0_371_i (v1 : Int32) (v2 : Int32) (v3 : Int32) (v4 : Int32) (v5 : Int32) (v6 : Int32) (v7 : Int32) (v9 : Int32) (v10 : Int32) (v11 : Int32) (v12 : Int32) (m : xmm) {z : Int32 × xmm} (h : (if v2 ≤ v12 then if v3 = 0 then bL_orders_0_226 v1 v2 (0 : Int32) v4 v5 v6 v7 v9 (v10 + (1 : Int32)) m else if v11 = 0 then bL_orders_0_226 v1 v2 (1 : Int32) v4 v5 v6 v7 v9 (v10 + (1 : Int32)) m else bL_orders_0_226 v1 v2 (0 : Int32) v4 v5 v6 v7 v9 (v10 + (1 : Int32)) m else if v12 = v7 then bL_orders_0_395 v1 v2 v3 v4 v5 v6 v7 v9 v10 v11 v12 m else if ((v9 >>> (v12 &&& 31)) &&& (1 : Int32)) = (1 : Int32) then bL_orders_0_395 v1 v2 v3 v4 v5 v6 v7 v9 v10 v11 v12 m else bL_orders_0_371 v1 v2 v3 v4 v5 v6 v7 v9 v10 v11 (v12 + (1 : Int32)) m) = some z) : bL_orders_0_371 v1 v2 v3 v4 v5 v6 v7 v9 v10 v11 v12 m = some z := by
  refine xstIc ?_
  show xTc 0 0 168 15 371 [(0, .ref 0), (1, .int v1), (2, .int v2), (3, .int v3), (4, .int v4), (5, .int v5), (6, .int v6), (7, .int v7), (9, .int v9), (10, .int v10), (11, .int v11), (12, .int v12)] [] m (some (.int z.1), z.2)
  refine e_iload rfl rfl (xnm_no rfl) ?_
  refine e_iload_n rfl rfl (xnm_no rfl) ?_
  refine e_icmp_ge (t := 433) rfl rfl (xnm_no rfl) (xnm_no rfl) h (fun h => ?_) (fun h => ?_)
  · refine e_iload_n rfl rfl (xnm_no rfl) ?_
    refine e_if_eq (t := 446) rfl rfl (xnm_no rfl) (xnm_no rfl) h (fun h => ?_) (fun h => ?_)
    · refine e_iconst (x := 0) rfl (by decide) (xnm_no rfl) ?_
      refine e_istore_n rfl rfl (xnm_no rfl) ?_
      refine e_iinc (y := 1) rfl rfl rfl (by decide) (xnm_no rfl) ?_
      refine e_goto (t := 226) rfl rfl rfl ?_
      exact xlfIc h
    · refine e_iload rfl rfl (xnm_no rfl) ?_
      refine e_if_ne (t := 446) rfl rfl (xnm_no rfl) (xnm_no rfl) h (fun h => ?_) (fun h => ?_)
      · refine e_iconst (x := 0) rfl (by decide) (xnm_no rfl) ?_
        refine e_istore_n rfl rfl (xnm_no rfl) ?_
        refine e_iinc (y := 1) rfl rfl rfl (by decide) (xnm_no rfl) ?_
        refine e_goto (t := 226) rfl rfl rfl ?_
        exact xlfIc h
      · refine e_iconst (x := 1) rfl (by decide) (xnm_no rfl) ?_
        refine e_goto (t := 447) rfl rfl (xnm_no rfl) ?_
        refine e_istore_n rfl rfl (xnm_no rfl) ?_
        refine e_iinc (y := 1) rfl rfl rfl (by decide) (xnm_no rfl) ?_
        refine e_goto (t := 226) rfl rfl rfl ?_
        exact xlfIc h
  · refine e_iload rfl rfl (xnm_no rfl) ?_
    refine e_iload rfl rfl (xnm_no rfl) ?_
    refine e_icmp_eq (t := 395) rfl rfl rfl (xnm_no rfl) h (fun h => ?_) (fun h => ?_)
    · exact xlfIc h
    · refine e_iload rfl rfl (xnm_no rfl) ?_
      refine e_iload rfl rfl (xnm_no rfl) ?_
      refine e_ishr rfl (xnm_no rfl) ?_
      refine e_iconst (x := 1) rfl (by decide) (xnm_no rfl) ?_
      refine e_iand rfl (xnm_no rfl) ?_
      refine e_iconst (x := 1) rfl (by decide) (xnm_no rfl) ?_
      refine e_icmp_ne (t := 427) rfl rfl (xnm_no rfl) rfl h (fun h => ?_) (fun h => ?_)
      · refine e_iinc (y := 1) rfl rfl rfl (by decide) (xnm_no rfl) ?_
        refine e_goto (t := 371) rfl rfl rfl ?_
        exact xlfIc h
      · exact xlfIc h
set_option maxRecDepth 4000 in
theorem bL_orders_0_363_i (v1 : Int32) (v2 : Int32) (v4 : Int32) (v5 : Int32) (v6 : Int32) (v7 : Int32) (v9 : Int32) (v10 : Int32) (m : xmm) {z : Int32 × xmm} (h : (bL_orders_0_371 v1 v2 (0 : Int32) v4 v5 v6 v7 v9 v10 (0 : Int32) (0 : Int32) m) = some z) : bL_orders_0_363 v1 v2 v4 v5 v6 v7 v9 v10 m = some z := by
  refine xstIc ?_
  show xTc 0 0 168 15 363 [(0, .ref 0), (1, .int v1), (2, .int v2), (4, .int v4), (5, .int v5), (6, .int v6), (7, .int v7), (9, .int v9), (10, .int v10)] [] m (some (.int z.1), z.2)
  refine e_iconst (x := 0) rfl (by decide) (xnm_no rfl) ?_
  refine e_istore_n rfl rfl (xnm_no rfl) ?_
  refine e_iconst (x := 0) rfl (by decide) (xnm_no rfl) ?_
  refine e_istore rfl rfl (xnm_no rfl) ?_
  refine e_iconst (x := 0) rfl (by decide) (xnm_no rfl) ?_
  refine e_istore rfl rfl rfl ?_
  exact xlfIc h
set_option maxRecDepth 4000 in
theorem bL_orders_0_774_i (v2 : Int32) (v3 : Int32) (v6 : Int32) (v11 : Int32) (v12 : Int32) (v13 : Int32) (m : xmm) {z : Int32 × xmm} (h : (if v2 ≤ v13 then (fX11_network_0 (5 : Int32) m).bind fun (w1 : Int32 × xmm) => if w1.1 = (1 : Int32) then bL_orders_0_869 v2 v3 v6 v12 (0 : Int32) w1.2 else bL_orders_0_1005 v3 v6 v12 w1.2 else (fX11_straight_0 v11 v13 m).bind fun (w3 : Int32 × xmm) => if v3 = 0 then bL_orders_0_841 v2 v6 v11 v12 v13 w3.1 (0 : Int32) w3.2 else (fX11_post_0 w3.1 (1 : Int32) w3.2).bind fun (w5 : Int32 × xmm) => if (w5.1 &&& (v12 ^^^ (-1 : Int32))) = 0 then if ((v12 >>> (w3.1 &&& 31)) &&& (1 : Int32)) = 0 then (fX11_straight_0 (0 : Int32) v13 w5.2).bind fun (w7 : Int32 × xmm) => (fX11_post_0 w7.1 (4 : Int32) w7.2).bind fun (w9 : Int32 × xmm) => if w9.1 = v13 then bL_orders_0_841 v2 v6 v11 v12 v13 w3.1 (1 : Int32) w9.2 else bL_orders_0_841 v2 v6 v11 v12 v13 w3.1 (0 : Int32) w9.2 else bL_orders_0_841 v2 v6 v11 v12 v13 w3.1 (0 : Int32) w5.2 else bL_orders_0_841 v2 v6 v11 v12 v13 w3.1 (0 : Int32) w5.2) = some z) : bL_orders_0_774 v2 v3 v6 v11 v12 v13 m = some z := by
  refine xstIc ?_
  show xTc 1 9 168 15 774 [(0, .ref 0), (2, .int v2), (3, .int v3), (6, .int v6), (11, .int v11), (12, .int v12), (13, .int v13)] [] m (some (.int z.1), z.2)
  refine e_iload rfl rfl (xnm_no rfl) ?_
  refine e_iload_n rfl rfl (xnm_no rfl) ?_
  refine e_icmp_ge (t := 857) rfl rfl (xnm_no rfl) (xnm_no rfl) h (fun h => ?_) (fun h => ?_)
  · refine e_aload_n rfl rfl rfl (xnm_no rfl) ?_
    refine e_iconst (x := 5) rfl (by decide) (xnm_no rfl) ?_
    obtain ⟨w1, hw2, h⟩ := xbd_some h
    refine e_cIVc (hc := hw2) (rest := []) (c2 := 1) (s2 := 9) rfl rfl rfl rfl rfl rfl rfl (xadd0 rfl) (xadd0 rfl) rfl rfl (xnm_no rfl) ?_
    refine e_iconst (x := 1) rfl (by decide) (xnm_no rfl) ?_
    refine e_icmp_ne (t := 1005) rfl rfl rfl (xnm_no rfl) h (fun h => ?_) (fun h => ?_)
    · exact xlfIc h
    · refine e_iconst (x := 0) rfl (by decide) (xnm_no rfl) ?_
      refine e_istore rfl rfl rfl ?_
      exact xlfIc h
  · refine e_aload_n rfl rfl rfl (xnm_no rfl) ?_
    refine e_iload rfl rfl (xnm_no rfl) ?_
    refine e_iload rfl rfl (xnm_no rfl) ?_
    obtain ⟨w3, hw4, h⟩ := xbd_some h
    refine e_cIVc (hc := hw4) (rest := []) (c2 := 1) (s2 := 9) rfl rfl rfl rfl rfl rfl rfl (xadd0 rfl) (xadd0 rfl) rfl rfl (xnm_no rfl) ?_
    refine e_istore rfl rfl (xnm_no rfl) ?_
    refine e_iload_n rfl rfl (xnm_no rfl) ?_
    refine e_if_eq (t := 840) rfl rfl (xnm_no rfl) (xnm_no rfl) h (fun h => ?_) (fun h => ?_)
    · refine e_iconst (x := 0) rfl (by decide) rfl ?_
      exact xlfIc h
    · refine e_aload_n rfl rfl rfl (xnm_no rfl) ?_
      refine e_iload rfl rfl (xnm_no rfl) ?_
      refine e_iconst (x := 1) rfl (by decide) (xnm_no rfl) ?_
      obtain ⟨w5, hw6, h⟩ := xbd_some h
      refine e_cIVc (hc := hw6) (rest := []) (c2 := 1) (s2 := 9) rfl rfl rfl rfl rfl rfl rfl (xadd0 rfl) (xadd0 rfl) rfl rfl (xnm_no rfl) ?_
      refine e_iload rfl rfl (xnm_no rfl) ?_
      refine e_iconst (x := -1) rfl (by decide) (xnm_no rfl) ?_
      refine e_ixor rfl (xnm_no rfl) ?_
      refine e_iand rfl (xnm_no rfl) ?_
      refine e_if_ne (t := 840) rfl rfl (xnm_no rfl) (xnm_no rfl) h (fun h => ?_) (fun h => ?_)
      · refine e_iconst (x := 0) rfl (by decide) rfl ?_
        exact xlfIc h
      · refine e_iload rfl rfl (xnm_no rfl) ?_
        refine e_iload rfl rfl (xnm_no rfl) ?_
        refine e_ishr rfl (xnm_no rfl) ?_
        refine e_iconst (x := 1) rfl (by decide) (xnm_no rfl) ?_
        refine e_iand rfl (xnm_no rfl) ?_
        refine e_if_ne (t := 840) rfl rfl (xnm_no rfl) (xnm_no rfl) h (fun h => ?_) (fun h => ?_)
        · refine e_iconst (x := 0) rfl (by decide) rfl ?_
          exact xlfIc h
        · refine e_aload_n rfl rfl rfl (xnm_no rfl) ?_
          refine e_aload_n rfl rfl rfl (xnm_no rfl) ?_
          refine e_iconst (x := 0) rfl (by decide) (xnm_no rfl) ?_
          refine e_iload rfl rfl (xnm_no rfl) ?_
          obtain ⟨w7, hw8, h⟩ := xbd_some h
          refine e_cIVc (hc := hw8) (rest := [.ref 0]) (c2 := 1) (s2 := 9) rfl rfl rfl rfl rfl rfl rfl (xadd0 rfl) (xadd0 rfl) rfl rfl (xnm_no rfl) ?_
          refine e_iconst (x := 4) rfl (by decide) (xnm_no rfl) ?_
          obtain ⟨w9, hw10, h⟩ := xbd_some h
          refine e_cIVc (hc := hw10) (rest := []) (c2 := 1) (s2 := 9) rfl rfl rfl rfl rfl rfl rfl (xadd0 rfl) (xadd0 rfl) rfl rfl (xnm_no rfl) ?_
          refine e_iload rfl rfl (xnm_no rfl) ?_
          refine e_icmp_ne (t := 840) rfl rfl (xnm_no rfl) (xnm_no rfl) h (fun h => ?_) (fun h => ?_)
          · refine e_iconst (x := 0) rfl (by decide) rfl ?_
            exact xlfIc h
          · refine e_iconst (x := 1) rfl (by decide) (xnm_no rfl) ?_
            refine e_goto (t := 841) rfl rfl rfl ?_
            exact xlfIc h
set_option maxRecDepth 4000 in
theorem bL_orders_0_395_i (v1 : Int32) (v2 : Int32) (v3 : Int32) (v4 : Int32) (v5 : Int32) (v6 : Int32) (v7 : Int32) (v9 : Int32) (v10 : Int32) (v11 : Int32) (v12 : Int32) (m : xmm) {z : Int32 × xmm} (h : (if v12 = v10 then bL_orders_0_414 v1 v2 v3 v4 v5 v6 v7 v9 v10 v11 v12 m else (fX11_under_0 v12 v10 m).bind fun (w1 : Int32 × xmm) => if w1.1 = (1 : Int32) then bL_orders_0_414 v1 v2 v3 v4 v5 v6 v7 v9 v10 v11 v12 w1.2 else bL_orders_0_371 v1 v2 v3 v4 v5 v6 v7 v9 v10 v11 (v12 + (1 : Int32)) w1.2) = some z) : bL_orders_0_395 v1 v2 v3 v4 v5 v6 v7 v9 v10 v11 v12 m = some z := by
  refine xstIc ?_
  show xTc 0 0 168 15 395 [(0, .ref 0), (1, .int v1), (2, .int v2), (3, .int v3), (4, .int v4), (5, .int v5), (6, .int v6), (7, .int v7), (9, .int v9), (10, .int v10), (11, .int v11), (12, .int v12)] [] m (some (.int z.1), z.2)
  refine e_iload rfl rfl (xnm_no rfl) ?_
  refine e_iload rfl rfl (xnm_no rfl) ?_
  refine e_icmp_eq (t := 414) rfl rfl rfl (xnm_no rfl) h (fun h => ?_) (fun h => ?_)
  · exact xlfIc h
  · refine e_aload_n rfl rfl rfl (xnm_no rfl) ?_
    refine e_iload rfl rfl (xnm_no rfl) ?_
    refine e_iload rfl rfl (xnm_no rfl) ?_
    obtain ⟨w1, hw2, h⟩ := xbd_some h
    refine e_cIVc (hc := hw2) (rest := []) (c2 := 0) (s2 := 0) rfl rfl rfl rfl rfl rfl rfl (xadd0 rfl) (xadd0 rfl) rfl rfl (xnm_no rfl) ?_
    refine e_iconst (x := 1) rfl (by decide) (xnm_no rfl) ?_
    refine e_icmp_ne (t := 427) rfl rfl (xnm_no rfl) rfl h (fun h => ?_) (fun h => ?_)
    · refine e_iinc (y := 1) rfl rfl rfl (by decide) (xnm_no rfl) ?_
      refine e_goto (t := 371) rfl rfl rfl ?_
      exact xlfIc h
    · exact xlfIc h
set_option maxRecDepth 4000 in
theorem bL_orders_0_1005_i (v3 : Int32) (v6 : Int32) (v12 : Int32) (m : xmm) {z : Int32 × xmm} (h : (if v3 = 0 then some ((0 : Int32), m) else if v12 = v6 then some ((1 : Int32), m) else some ((0 : Int32), m)) = some z) : bL_orders_0_1005 v3 v6 v12 m = some z := by
  refine xstIc ?_
  show xTc 1 9 168 15 1005 [(3, .int v3), (6, .int v6), (12, .int v12)] [] m (some (.int z.1), z.2)
  refine e_iload_n rfl rfl (xnm_no rfl) ?_
  refine e_if_eq (t := 1020) rfl rfl (xnm_no rfl) (xnm_no rfl) h (fun h => ?_) (fun h => ?_)
  · refine e_iconst (x := 0) rfl (by decide) (xnm_no rfl) ?_
    cases h
    exact e_retIc rfl (by decide) rfl
  · refine e_iload rfl rfl (xnm_no rfl) ?_
    refine e_iload rfl rfl (xnm_no rfl) ?_
    refine e_icmp_ne (t := 1020) rfl rfl (xnm_no rfl) (xnm_no rfl) h (fun h => ?_) (fun h => ?_)
    · refine e_iconst (x := 0) rfl (by decide) (xnm_no rfl) ?_
      cases h
      exact e_retIc rfl (by decide) rfl
    · refine e_iconst (x := 1) rfl (by decide) (xnm_no rfl) ?_
      refine e_goto (t := 1021) rfl rfl (xnm_no rfl) ?_
      cases h
      exact e_retIc rfl (by decide) rfl
set_option maxRecDepth 4000 in
theorem bL_orders_0_869_i (v2 : Int32) (v3 : Int32) (v6 : Int32) (v12 : Int32) (v13 : Int32) (m : xmm) {z : Int32 × xmm} (h : (if v2 ≤ v13 then bL_orders_0_1005 v3 v6 v12 m else bL_orders_0_878 v2 v3 v6 v12 v13 (0 : Int32) m) = some z) : bL_orders_0_869 v2 v3 v6 v12 v13 m = some z := by
  refine xstIc ?_
  show xTc 1 9 168 15 869 [(0, .ref 0), (2, .int v2), (3, .int v3), (6, .int v6), (12, .int v12), (13, .int v13)] [] m (some (.int z.1), z.2)
  refine e_iload rfl rfl (xnm_no rfl) ?_
  refine e_iload_n rfl rfl (xnm_no rfl) ?_
  refine e_icmp_ge (t := 1005) rfl rfl rfl (xnm_no rfl) h (fun h => ?_) (fun h => ?_)
  · exact xlfIc h
  · refine e_iconst (x := 0) rfl (by decide) (xnm_no rfl) ?_
    refine e_istore rfl rfl rfl ?_
    exact xlfIc h
set_option maxRecDepth 4000 in
theorem bL_orders_0_841_i (v2 : Int32) (v6 : Int32) (v11 : Int32) (v12 : Int32) (v13 : Int32) (v14 : Int32) (s0 : Int32) (m : xmm) {z : Int32 × xmm} (h : (bL_orders_0_774 v2 s0 v6 v11 (v12 ||| ((1 : Int32) <<< (v14 &&& 31))) (v13 + (1 : Int32)) m) = some z) : bL_orders_0_841 v2 v6 v11 v12 v13 v14 s0 m = some z := by
  refine xstIc ?_
  show xTc 1 9 168 15 841 [(0, .ref 0), (2, .int v2), (6, .int v6), (11, .int v11), (12, .int v12), (13, .int v13), (14, .int v14)] [.int s0] m (some (.int z.1), z.2)
  refine e_istore_n rfl rfl (xnm_no rfl) ?_
  refine e_iload rfl rfl (xnm_no rfl) ?_
  refine e_iconst (x := 1) rfl (by decide) (xnm_no rfl) ?_
  refine e_iload rfl rfl (xnm_no rfl) ?_
  refine e_ishl rfl (xnm_no rfl) ?_
  refine e_ior rfl (xnm_no rfl) ?_
  refine e_istore rfl rfl (xnm_no rfl) ?_
  refine e_iinc (y := 1) rfl rfl rfl (by decide) (xnm_no rfl) ?_
  refine e_goto (t := 774) rfl rfl rfl ?_
  exact xlfIc h
set_option maxRecDepth 4000 in
theorem bL_orders_0_414_i (v1 : Int32) (v2 : Int32) (v3 : Int32) (v4 : Int32) (v5 : Int32) (v6 : Int32) (v7 : Int32) (v9 : Int32) (v10 : Int32) (v11 : Int32) (v12 : Int32) (m : xmm) {z : Int32 × xmm} (h : ((fX11_sign_0 v7 v12 m).bind fun (w1 : Int32 × xmm) => bL_orders_0_371 v1 v2 v3 v4 v5 v6 v7 v9 v10 (v11 + w1.1) (v12 + (1 : Int32)) w1.2) = some z) : bL_orders_0_414 v1 v2 v3 v4 v5 v6 v7 v9 v10 v11 v12 m = some z := by
  refine xstIc ?_
  show xTc 0 0 168 15 414 [(0, .ref 0), (1, .int v1), (2, .int v2), (3, .int v3), (4, .int v4), (5, .int v5), (6, .int v6), (7, .int v7), (9, .int v9), (10, .int v10), (11, .int v11), (12, .int v12)] [] m (some (.int z.1), z.2)
  refine e_iload rfl rfl (xnm_no rfl) ?_
  refine e_aload_n rfl rfl rfl (xnm_no rfl) ?_
  refine e_iload rfl rfl (xnm_no rfl) ?_
  refine e_iload rfl rfl (xnm_no rfl) ?_
  obtain ⟨w1, hw2, h⟩ := xbd_some h
  refine e_cIVc (hc := hw2) (rest := [.int _]) (c2 := 0) (s2 := 0) rfl rfl rfl rfl rfl rfl rfl (xadd0 rfl) (xadd0 rfl) rfl rfl (xnm_no rfl) ?_
  refine e_iadd rfl (xnm_no rfl) ?_
  refine e_istore rfl rfl (xnm_no rfl) ?_
  refine e_iinc (y := 1) rfl rfl rfl (by decide) (xnm_no rfl) ?_
  refine e_goto (t := 371) rfl rfl rfl ?_
  exact xlfIc h
set_option maxRecDepth 4000 in
theorem bL_orders_0_878_i (v2 : Int32) (v3 : Int32) (v6 : Int32) (v12 : Int32) (v13 : Int32) (v14 : Int32) (m : xmm) {z : Int32 × xmm} (h : (if v13 ≤ v14 then bL_orders_0_869 v2 v3 v6 v12 (v13 + (1 : Int32)) m else (fX11_post_0 v13 (5 : Int32) m).bind fun (w1 : Int32 × xmm) => (fX11_post_0 v14 (5 : Int32) w1.2).bind fun (w3 : Int32 × xmm) => if w3.1 ≤ w1.1 then bL_orders_0_907 v2 v3 v6 v12 v13 v14 (0 : Int32) w3.2 else bL_orders_0_907 v2 v3 v6 v12 v13 v14 (1 : Int32) w3.2) = some z) : bL_orders_0_878 v2 v3 v6 v12 v13 v14 m = some z := by
  refine xstIc ?_
  show xTc 1 9 168 15 878 [(0, .ref 0), (2, .int v2), (3, .int v3), (6, .int v6), (12, .int v12), (13, .int v13), (14, .int v14)] [] m (some (.int z.1), z.2)
  refine e_iload rfl rfl (xnm_no rfl) ?_
  refine e_iload rfl rfl (xnm_no rfl) ?_
  refine e_icmp_ge (t := 999) rfl rfl (xnm_no rfl) (xnm_no rfl) h (fun h => ?_) (fun h => ?_)
  · refine e_iinc (y := 1) rfl rfl rfl (by decide) (xnm_no rfl) ?_
    refine e_goto (t := 869) rfl rfl rfl ?_
    exact xlfIc h
  · refine e_aload_n rfl rfl rfl (xnm_no rfl) ?_
    refine e_iload rfl rfl (xnm_no rfl) ?_
    refine e_iconst (x := 5) rfl (by decide) (xnm_no rfl) ?_
    obtain ⟨w1, hw2, h⟩ := xbd_some h
    refine e_cIVc (hc := hw2) (rest := []) (c2 := 1) (s2 := 9) rfl rfl rfl rfl rfl rfl rfl (xadd0 rfl) (xadd0 rfl) rfl rfl (xnm_no rfl) ?_
    refine e_aload_n rfl rfl rfl (xnm_no rfl) ?_
    refine e_iload rfl rfl (xnm_no rfl) ?_
    refine e_iconst (x := 5) rfl (by decide) (xnm_no rfl) ?_
    obtain ⟨w3, hw4, h⟩ := xbd_some h
    refine e_cIVc (hc := hw4) (rest := [.int _]) (c2 := 1) (s2 := 9) rfl rfl rfl rfl rfl rfl rfl (xadd0 rfl) (xadd0 rfl) rfl rfl (xnm_no rfl) ?_
    refine e_icmp_ge (t := 906) rfl rfl (xnm_no rfl) (xnm_no rfl) h (fun h => ?_) (fun h => ?_)
    · refine e_iconst (x := 0) rfl (by decide) rfl ?_
      exact xlfIc h
    · refine e_iconst (x := 1) rfl (by decide) (xnm_no rfl) ?_
      refine e_goto (t := 907) rfl rfl rfl ?_
      exact xlfIc h
set_option maxRecDepth 4000 in
theorem bL_orders_0_907_i (v2 : Int32) (v3 : Int32) (v6 : Int32) (v12 : Int32) (v13 : Int32) (v14 : Int32) (s0 : Int32) (m : xmm) {z : Int32 × xmm} (h : ((fX11_post_0 v13 (6 : Int32) m).bind fun (w1 : Int32 × xmm) => (fX11_post_0 v14 (6 : Int32) w1.2).bind fun (w3 : Int32 × xmm) => if w3.1 ≤ w1.1 then if s0 = (0 : Int32) then bL_orders_0_939 v2 v3 v6 v12 v13 v14 (0 : Int32) w3.2 else bL_orders_0_939 v2 v3 v6 v12 v13 v14 (1 : Int32) w3.2 else if s0 = (1 : Int32) then bL_orders_0_939 v2 v3 v6 v12 v13 v14 (0 : Int32) w3.2 else bL_orders_0_939 v2 v3 v6 v12 v13 v14 (1 : Int32) w3.2) = some z) : bL_orders_0_907 v2 v3 v6 v12 v13 v14 s0 m = some z := by
  refine xstIc ?_
  show xTc 1 9 168 15 907 [(0, .ref 0), (2, .int v2), (3, .int v3), (6, .int v6), (12, .int v12), (13, .int v13), (14, .int v14)] [.int s0] m (some (.int z.1), z.2)
  refine e_aload_n rfl rfl rfl (xnm_no rfl) ?_
  refine e_iload rfl rfl (xnm_no rfl) ?_
  refine e_bipush (x := 6) rfl (by decide) (xnm_no rfl) ?_
  obtain ⟨w1, hw2, h⟩ := xbd_some h
  refine e_cIVc (hc := hw2) (rest := [.int _]) (c2 := 1) (s2 := 9) rfl rfl rfl rfl rfl rfl rfl (xadd0 rfl) (xadd0 rfl) rfl rfl (xnm_no rfl) ?_
  refine e_aload_n rfl rfl rfl (xnm_no rfl) ?_
  refine e_iload rfl rfl (xnm_no rfl) ?_
  refine e_bipush (x := 6) rfl (by decide) (xnm_no rfl) ?_
  obtain ⟨w3, hw4, h⟩ := xbd_some h
  refine e_cIVc (hc := hw4) (rest := [.int _, .int _]) (c2 := 1) (s2 := 9) rfl rfl rfl rfl rfl rfl rfl (xadd0 rfl) (xadd0 rfl) rfl rfl (xnm_no rfl) ?_
  refine e_icmp_ge (t := 930) rfl rfl (xnm_no rfl) (xnm_no rfl) h (fun h => ?_) (fun h => ?_)
  · refine e_iconst (x := 0) rfl (by decide) (xnm_no rfl) ?_
    refine e_icmp_eq (t := 938) rfl rfl (xnm_no rfl) (xnm_no rfl) h (fun h => ?_) (fun h => ?_)
    · refine e_iconst (x := 0) rfl (by decide) rfl ?_
      exact xlfIc h
    · refine e_iconst (x := 1) rfl (by decide) (xnm_no rfl) ?_
      refine e_goto (t := 939) rfl rfl rfl ?_
      exact xlfIc h
  · refine e_iconst (x := 1) rfl (by decide) (xnm_no rfl) ?_
    refine e_goto (t := 931) rfl rfl (xnm_no rfl) ?_
    refine e_icmp_eq (t := 938) rfl rfl (xnm_no rfl) (xnm_no rfl) h (fun h => ?_) (fun h => ?_)
    · refine e_iconst (x := 0) rfl (by decide) rfl ?_
      exact xlfIc h
    · refine e_iconst (x := 1) rfl (by decide) (xnm_no rfl) ?_
      refine e_goto (t := 939) rfl rfl rfl ?_
      exact xlfIc h
set_option maxRecDepth 4000 in
theorem bL_orders_0_939_i (v2 : Int32) (v3 : Int32) (v6 : Int32) (v12 : Int32) (v13 : Int32) (v14 : Int32) (s0 : Int32) (m : xmm) {z : Int32 × xmm} (h : (if v3 = 0 then bL_orders_0_878 v2 (0 : Int32) v6 v12 v13 (v14 + (1 : Int32)) m else (fX11_near_0 v13 m).bind fun (w1 : Int32 × xmm) => if ((w1.1 >>> (v14 &&& 31)) &&& (1 : Int32)) = (1 : Int32) then bL_orders_0_967 v2 v6 v12 v13 v14 s0 (1 : Int32) w1.2 else bL_orders_0_967 v2 v6 v12 v13 v14 s0 (0 : Int32) w1.2) = some z) : bL_orders_0_939 v2 v3 v6 v12 v13 v14 s0 m = some z := by
  refine xstIc ?_
  show xTc 1 9 168 15 939 [(0, .ref 0), (2, .int v2), (3, .int v3), (6, .int v6), (12, .int v12), (13, .int v13), (14, .int v14)] [.int s0] m (some (.int z.1), z.2)
  refine e_istore rfl rfl (xnm_no rfl) ?_
  refine e_iload_n rfl rfl (xnm_no rfl) ?_
  refine e_if_eq (t := 991) rfl rfl (xnm_no rfl) (xnm_no rfl) h (fun h => ?_) (fun h => ?_)
  · refine e_iconst (x := 0) rfl (by decide) (xnm_no rfl) ?_
    refine e_istore_n rfl rfl (xnm_no rfl) ?_
    refine e_iinc (y := 1) rfl rfl rfl (by decide) (xnm_no rfl) ?_
    refine e_goto (t := 878) rfl rfl rfl ?_
    exact xlfIc h
  · refine e_iload rfl rfl (xnm_no rfl) ?_
    refine e_aload_n rfl rfl rfl (xnm_no rfl) ?_
    refine e_iload rfl rfl (xnm_no rfl) ?_
    obtain ⟨w1, hw2, h⟩ := xbd_some h
    refine e_cIVc (hc := hw2) (rest := [.int _]) (c2 := 1) (s2 := 9) rfl rfl rfl rfl rfl rfl rfl (xadd0 rfl) (xadd0 rfl) rfl rfl (xnm_no rfl) ?_
    refine e_iload rfl rfl (xnm_no rfl) ?_
    refine e_ishr rfl (xnm_no rfl) ?_
    refine e_iconst (x := 1) rfl (by decide) (xnm_no rfl) ?_
    refine e_iand rfl (xnm_no rfl) ?_
    refine e_iconst (x := 1) rfl (by decide) (xnm_no rfl) ?_
    refine e_icmp_ne (t := 966) rfl rfl (xnm_no rfl) (xnm_no rfl) h (fun h => ?_) (fun h => ?_)
    · refine e_iconst (x := 0) rfl (by decide) rfl ?_
      exact xlfIc h
    · refine e_iconst (x := 1) rfl (by decide) (xnm_no rfl) ?_
      refine e_goto (t := 967) rfl rfl rfl ?_
      exact xlfIc h
set_option maxRecDepth 4000 in
theorem bL_orders_0_967_i (v2 : Int32) (v6 : Int32) (v12 : Int32) (v13 : Int32) (v14 : Int32) (s0 : Int32) (s1 : Int32) (m : xmm) {z : Int32 × xmm} (h : (if s0 = s1 then (fX11_post_0 v13 (5 : Int32) m).bind fun (w1 : Int32 × xmm) => (fX11_post_0 v14 (5 : Int32) w1.2).bind fun (w3 : Int32 × xmm) => if w1.1 = w3.1 then bL_orders_0_878 v2 (0 : Int32) v6 v12 v13 (v14 + (1 : Int32)) w3.2 else bL_orders_0_878 v2 (1 : Int32) v6 v12 v13 (v14 + (1 : Int32)) w3.2 else bL_orders_0_878 v2 (0 : Int32) v6 v12 v13 (v14 + (1 : Int32)) m) = some z) : bL_orders_0_967 v2 v6 v12 v13 v14 s0 s1 m = some z := by
  refine xstIc ?_
  show xTc 1 9 168 15 967 [(0, .ref 0), (2, .int v2), (6, .int v6), (12, .int v12), (13, .int v13), (14, .int v14)] [.int s1, .int s0] m (some (.int z.1), z.2)
  refine e_icmp_ne (t := 991) rfl rfl (xnm_no rfl) (xnm_no rfl) h (fun h => ?_) (fun h => ?_)
  · refine e_iconst (x := 0) rfl (by decide) (xnm_no rfl) ?_
    refine e_istore_n rfl rfl (xnm_no rfl) ?_
    refine e_iinc (y := 1) rfl rfl rfl (by decide) (xnm_no rfl) ?_
    refine e_goto (t := 878) rfl rfl rfl ?_
    exact xlfIc h
  · refine e_aload_n rfl rfl rfl (xnm_no rfl) ?_
    refine e_iload rfl rfl (xnm_no rfl) ?_
    refine e_iconst (x := 5) rfl (by decide) (xnm_no rfl) ?_
    obtain ⟨w1, hw2, h⟩ := xbd_some h
    refine e_cIVc (hc := hw2) (rest := []) (c2 := 1) (s2 := 9) rfl rfl rfl rfl rfl rfl rfl (xadd0 rfl) (xadd0 rfl) rfl rfl (xnm_no rfl) ?_
    refine e_aload_n rfl rfl rfl (xnm_no rfl) ?_
    refine e_iload rfl rfl (xnm_no rfl) ?_
    refine e_iconst (x := 5) rfl (by decide) (xnm_no rfl) ?_
    obtain ⟨w3, hw4, h⟩ := xbd_some h
    refine e_cIVc (hc := hw4) (rest := [.int _]) (c2 := 1) (s2 := 9) rfl rfl rfl rfl rfl rfl rfl (xadd0 rfl) (xadd0 rfl) rfl rfl (xnm_no rfl) ?_
    refine e_icmp_eq (t := 991) rfl rfl (xnm_no rfl) (xnm_no rfl) h (fun h => ?_) (fun h => ?_)
    · refine e_iconst (x := 0) rfl (by decide) (xnm_no rfl) ?_
      refine e_istore_n rfl rfl (xnm_no rfl) ?_
      refine e_iinc (y := 1) rfl rfl rfl (by decide) (xnm_no rfl) ?_
      refine e_goto (t := 878) rfl rfl rfl ?_
      exact xlfIc h
    · refine e_iconst (x := 1) rfl (by decide) (xnm_no rfl) ?_
      refine e_goto (t := 992) rfl rfl (xnm_no rfl) ?_
      refine e_istore_n rfl rfl (xnm_no rfl) ?_
      refine e_iinc (y := 1) rfl rfl rfl (by decide) (xnm_no rfl) ?_
      refine e_goto (t := 878) rfl rfl rfl ?_
      exact xlfIc h
