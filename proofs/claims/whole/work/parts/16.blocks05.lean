set_option maxRecDepth 4000 in
theorem fX12_of_144_i (v1 : Int32) (v2 : Int32) (m : xmm) {z : Int32 × xmm} (h : ((fX12_lineMany_144 m).bind fun (w1 : Int32 × xmm) => (fX12_in v1 (0 : Int32) (w1.1 - (1 : Int32)) w1.2).bind fun (w3 : Int32 × xmm) => if w3.1 = 0 then some ((-1 : Int32), w3.2) else (fX12_in v2 (0 : Int32) (3 : Int32) w3.2).bind fun (w5 : Int32 × xmm) => if w5.1 = 0 then some ((-1 : Int32), w5.2) else (fX12_arrowAt_144 v1 w5.2).bind fun (w7 : Int32 × xmm) => if v2 = 0 then some ((w7.1 / (8 : Int32)), w7.2) else if v2 = (1 : Int32) then some ((w7.1 - w7.1 / (8 : Int32) * (8 : Int32)), w7.2) else (fX12_isArrowed_144 w7.2).bind fun (w9 : Int32 × xmm) => if w9.1 = 0 then some ((-2 : Int32), w9.2) else if v2 = (2 : Int32) then xgd (xinb 64 w7.1) (some ((w9.2.1 166 (w7.1).toNatClampNeg), w9.2)) else xgd (xinb 8 (w7.1 / (8 : Int32))) ((fX12_has (w9.2.1 164 ((w7.1 / (8 : Int32))).toNatClampNeg) (w7.1 - w7.1 / (8 : Int32) * (8 : Int32)) w9.2).bind fun (w12 : Int32 × xmm) => if w12.1 = 0 then some ((0 : Int32), w12.2) else some ((1 : Int32), w12.2))) = some z) : fX12_of_144 v1 v2 m = some z := by
  refine xstI ?_
  show xT 212 7 0 [(0, .ref 144), (1, .int v1), (2, .int v2)] [] m (some (.int z.1), z.2)
  refine e_iload_n rfl rfl (xnm_no rfl) ?_
  refine e_iconst (x := 0) rfl (by decide) (xnm_no rfl) ?_
  refine e_aload_n rfl rfl rfl (xnm_no rfl) ?_
  obtain ⟨w1, hw2, h⟩ := xbd_some h
  refine e_cIV (hc := hw2) (rest := [.int _, .int _]) rfl rfl rfl rfl rfl rfl rfl rfl (xnm_no rfl) ?_
  refine e_iconst (x := 1) rfl (by decide) (xnm_no rfl) ?_
  refine e_isub rfl (xnm_no rfl) ?_
  obtain ⟨w3, hw4, h⟩ := xbd_some h
  refine e_cIS (hc := hw4) (rest := []) rfl rfl rfl rfl rfl rfl rfl rfl (xnm_no rfl) ?_
  refine e_if_eq (t := 23) rfl rfl (xnm_no rfl) (xnm_no rfl) h (fun h => ?_) (fun h => ?_)
  · refine e_iconst (x := -1) rfl (by decide) (xnm_no rfl) ?_
    cases h
    exact e_retI rfl rfl
  · refine e_iload_n rfl rfl (xnm_no rfl) ?_
    refine e_iconst (x := 0) rfl (by decide) (xnm_no rfl) ?_
    refine e_iconst (x := 3) rfl (by decide) (xnm_no rfl) ?_
    obtain ⟨w5, hw6, h⟩ := xbd_some h
    refine e_cIS (hc := hw6) (rest := []) rfl rfl rfl rfl rfl rfl rfl rfl (xnm_no rfl) ?_
    refine e_if_ne (t := 25) rfl rfl (xnm_no rfl) (xnm_no rfl) h (fun h => ?_) (fun h => ?_)
    · refine e_aload_n rfl rfl rfl (xnm_no rfl) ?_
      refine e_iload_n rfl rfl (xnm_no rfl) ?_
      obtain ⟨w7, hw8, h⟩ := xbd_some h
      refine e_cIV (hc := hw8) (rest := []) rfl rfl rfl rfl rfl rfl rfl rfl (xnm_no rfl) ?_
      refine e_istore_n rfl rfl (xnm_no rfl) ?_
      refine e_iload_n rfl rfl (xnm_no rfl) ?_
      refine e_if_ne (t := 40) rfl rfl (xnm_no rfl) (xnm_no rfl) h (fun h => ?_) (fun h => ?_)
      · refine e_iload_n rfl rfl (xnm_no rfl) ?_
        refine e_iconst (x := 1) rfl (by decide) (xnm_no rfl) ?_
        refine e_icmp_ne (t := 50) rfl rfl (xnm_no rfl) (xnm_no rfl) h (fun h => ?_) (fun h => ?_)
        · refine e_aload_n rfl rfl rfl (xnm_no rfl) ?_
          obtain ⟨w9, hw10, h⟩ := xbd_some h
          refine e_cIV (hc := hw10) (rest := []) rfl rfl rfl rfl rfl rfl rfl rfl (xnm_no rfl) ?_
          refine e_if_ne (t := 60) rfl rfl (xnm_no rfl) (xnm_no rfl) h (fun h => ?_) (fun h => ?_)
          · refine e_iload_n rfl rfl (xnm_no rfl) ?_
            refine e_iconst (x := 2) rfl (by decide) (xnm_no rfl) ?_
            refine e_icmp_ne (t := 74) rfl rfl (xnm_no rfl) (xnm_no rfl) h (fun h => ?_) (fun h => ?_)
            · refine e_aload_n rfl rfl rfl (xnm_no rfl) ?_
              refine e_getR (r := 164) rfl rfl rfl rfl rfl (xnm_no rfl) ?_
              refine e_iload_n rfl rfl (xnm_no rfl) ?_
              refine e_bipush (x := 8) rfl (by decide) (xnm_no rfl) ?_
              refine e_idiv rfl (by decide) (xnm_no rfl) ?_
              obtain ⟨g11, h⟩ := xgd_some h
              refine e_iald rfl g11 (xnm_no rfl) ?_
              refine e_iload_n rfl rfl (xnm_no rfl) ?_
              refine e_bipush (x := 8) rfl (by decide) (xnm_no rfl) ?_
              refine e_irem rfl (by decide) (xnm_no rfl) ?_
              obtain ⟨w12, hw13, h⟩ := xbd_some h
              refine e_cIS (hc := hw13) (rest := []) rfl rfl rfl rfl rfl rfl rfl rfl (xnm_no rfl) ?_
              refine e_if_eq (t := 97) rfl rfl (xnm_no rfl) (xnm_no rfl) h (fun h => ?_) (fun h => ?_)
              · refine e_iconst (x := 0) rfl (by decide) (xnm_no rfl) ?_
                cases h
                exact e_retI rfl rfl
              · refine e_iconst (x := 1) rfl (by decide) (xnm_no rfl) ?_
                refine e_goto (t := 98) rfl rfl (xnm_no rfl) ?_
                cases h
                exact e_retI rfl rfl
            · refine e_aload_n rfl rfl rfl (xnm_no rfl) ?_
              refine e_getR (r := 166) rfl rfl rfl rfl rfl (xnm_no rfl) ?_
              refine e_iload_n rfl rfl (xnm_no rfl) ?_
              obtain ⟨g14, h⟩ := xgd_some h
              refine e_iald rfl g14 (xnm_no rfl) ?_
              refine e_goto (t := 98) rfl rfl (xnm_no rfl) ?_
              cases h
              exact e_retI rfl rfl
          · refine e_bipush (x := -2) rfl (by decide) (xnm_no rfl) ?_
            cases h
            exact e_retI rfl rfl
        · refine e_iload_n rfl rfl (xnm_no rfl) ?_
          refine e_bipush (x := 8) rfl (by decide) (xnm_no rfl) ?_
          refine e_irem rfl (by decide) (xnm_no rfl) ?_
          cases h
          exact e_retI rfl rfl
      · refine e_iload_n rfl rfl (xnm_no rfl) ?_
        refine e_bipush (x := 8) rfl (by decide) (xnm_no rfl) ?_
        refine e_idiv rfl (by decide) (xnm_no rfl) ?_
        cases h
        exact e_retI rfl rfl
    · refine e_iconst (x := -1) rfl (by decide) (xnm_no rfl) ?_
      cases h
      exact e_retI rfl rfl
set_option maxRecDepth 4000 in
theorem fX9_touched_i (v0 : Nat) (v1 : Int32) (m : xmm) {z : Int32 × xmm} (h : (bX9_touched_4 v0 v1 (0 : Int32) (0 : Int32) m) = some z) : fX9_touched v0 v1 m = some z := by
  refine xstI ?_
  show xT 97 1 0 [(0, .ref v0), (1, .int v1)] [] m (some (.int z.1), z.2)
  refine e_iconst (x := 0) rfl (by decide) (xnm_no rfl) ?_
  refine e_istore_n rfl rfl (xnm_no rfl) ?_
  refine e_iconst (x := 0) rfl (by decide) (xnm_no rfl) ?_
  refine e_istore_n rfl rfl rfl ?_
  exact xlfI h
set_option maxRecDepth 4000 in
theorem bX9_touched_4_i (v0 : Nat) (v1 : Int32) (v2 : Int32) (v3 : Int32) (m : xmm) {z : Int32 × xmm} (h : (if (8 : Int32) ≤ v3 then some (v2, m) else (fX11_contains v1 v3 m).bind fun (w1 : Int32 × xmm) => if w1.1 = 0 then bX9_touched_4 v0 v1 v2 (v3 + (1 : Int32)) w1.2 else xgd (!(Nat.beq v0 1999)) (xgd (xia 1 v0 v3) (bX9_touched_4 v0 v1 (v2 ||| (w1.2.1 v0 (v3).toNatClampNeg)) (v3 + (1 : Int32)) w1.2))) = some z) : bX9_touched_4 v0 v1 v2 v3 m = some z := by
  refine xstI ?_
  show xT 97 1 4 [(0, .ref v0), (1, .int v1), (2, .int v2), (3, .int v3)] [] m (some (.int z.1), z.2)
  refine e_iload_n rfl rfl (xnm_no rfl) ?_
  refine e_bipush (x := 8) rfl (by decide) (xnm_no rfl) ?_
  refine e_icmp_ge (t := 30) rfl rfl (xnm_no rfl) (xnm_no rfl) h (fun h => ?_) (fun h => ?_)
  · refine e_iload_n rfl rfl (xnm_no rfl) ?_
    cases h
    exact e_retI rfl rfl
  · refine e_iload_n rfl rfl (xnm_no rfl) ?_
    refine e_iload_n rfl rfl (xnm_no rfl) ?_
    obtain ⟨w1, hw2, h⟩ := xbd_some h
    refine e_cIS (hc := hw2) (rest := []) rfl rfl rfl rfl rfl rfl rfl rfl (xnm_no rfl) ?_
    refine e_if_eq (t := 24) rfl rfl (xnm_no rfl) (xnm_no rfl) h (fun h => ?_) (fun h => ?_)
    · refine e_iinc (y := 1) rfl rfl rfl (by decide) (xnm_no rfl) ?_
      refine e_goto (t := 4) rfl rfl rfl ?_
      exact xlfI h
    · refine e_iload_n rfl rfl (xnm_no rfl) ?_
      obtain ⟨g3, h⟩ := xgd_some h
      refine e_aload_n rfl rfl (xnb g3) (xnm_no rfl) ?_
      refine e_iload_n rfl rfl (xnm_no rfl) ?_
      obtain ⟨g4, h⟩ := xgd_some h
      refine e_iald rfl g4 (xnm_no rfl) ?_
      refine e_ior rfl (xnm_no rfl) ?_
      refine e_istore_n rfl rfl (xnm_no rfl) ?_
      refine e_iinc (y := 1) rfl rfl rfl (by decide) (xnm_no rfl) ?_
      refine e_goto (t := 4) rfl rfl rfl ?_
      exact xlfI h
set_option maxRecDepth 4000 in
theorem fX11_far_0_i (v1 : Int32) (v2 : Int32) (m : xmm) {z : Int32 × xmm} (h : ((fX3_hasPost 10 v1 m).bind fun (w1 : Int32 × xmm) => if w1.1 = 0 then some ((-1 : Int32), w1.2) else (fX3_hasPost 10 v2 w1.2).bind fun (w3 : Int32 × xmm) => if w3.1 = 0 then some ((-1 : Int32), w3.2) else bX11_far_0_31 v2 ((1 : Int32) <<< (v1 &&& 31)) (0 : Int32) w3.2) = some z) : fX11_far_0 v1 v2 m = some z := by
  refine xstI ?_
  show xT 126 2 0 [(0, .ref 0), (1, .int v1), (2, .int v2)] [] m (some (.int z.1), z.2)
  refine e_aload_n rfl rfl rfl (xnm_no rfl) ?_
  refine e_getR (r := 10) rfl rfl rfl rfl rfl (xnm_no rfl) ?_
  refine e_iload_n rfl rfl (xnm_no rfl) ?_
  obtain ⟨w1, hw2, h⟩ := xbd_some h
  refine e_cIV (hc := hw2) (rest := []) rfl rfl rfl rfl rfl rfl rfl rfl (xnm_no rfl) ?_
  refine e_if_eq (t := 22) rfl rfl (xnm_no rfl) (xnm_no rfl) h (fun h => ?_) (fun h => ?_)
  · refine e_iconst (x := -1) rfl (by decide) (xnm_no rfl) ?_
    cases h
    exact e_retI rfl rfl
  · refine e_aload_n rfl rfl rfl (xnm_no rfl) ?_
    refine e_getR (r := 10) rfl rfl rfl rfl rfl (xnm_no rfl) ?_
    refine e_iload_n rfl rfl (xnm_no rfl) ?_
    obtain ⟨w3, hw4, h⟩ := xbd_some h
    refine e_cIV (hc := hw4) (rest := []) rfl rfl rfl rfl rfl rfl rfl rfl (xnm_no rfl) ?_
    refine e_if_ne (t := 24) rfl rfl (xnm_no rfl) (xnm_no rfl) h (fun h => ?_) (fun h => ?_)
    · refine e_iconst (x := 1) rfl (by decide) (xnm_no rfl) ?_
      refine e_iload_n rfl rfl (xnm_no rfl) ?_
      refine e_ishl rfl (xnm_no rfl) ?_
      refine e_istore_n rfl rfl (xnm_no rfl) ?_
      refine e_iconst (x := 0) rfl (by decide) (xnm_no rfl) ?_
      refine e_istore rfl rfl rfl ?_
      exact xlfI h
    · refine e_iconst (x := -1) rfl (by decide) (xnm_no rfl) ?_
      cases h
      exact e_retI rfl rfl
set_option maxRecDepth 4000 in
theorem bX11_far_0_31_i (v2 : Int32) (v3 : Int32) (v4 : Int32) (m : xmm) {z : Int32 × xmm} (h : (if (8 : Int32) ≤ v4 then some ((-2 : Int32), m) else (fX11_contains v3 v2 m).bind fun (w1 : Int32 × xmm) => if w1.1 = 0 then (fX9_touched 11 v3 w1.2).bind fun (w3 : Int32 × xmm) => bX11_far_0_31 v2 (v3 ||| w3.1) (v4 + (1 : Int32)) w3.2 else some (v4, w1.2)) = some z) : bX11_far_0_31 v2 v3 v4 m = some z := by
  refine xstI ?_
  show xT 126 2 31 [(0, .ref 0), (2, .int v2), (3, .int v3), (4, .int v4)] [] m (some (.int z.1), z.2)
  refine e_iload rfl rfl (xnm_no rfl) ?_
  refine e_bipush (x := 8) rfl (by decide) (xnm_no rfl) ?_
  refine e_icmp_ge (t := 69) rfl rfl (xnm_no rfl) (xnm_no rfl) h (fun h => ?_) (fun h => ?_)
  · refine e_bipush (x := -2) rfl (by decide) (xnm_no rfl) ?_
    cases h
    exact e_retI rfl rfl
  · refine e_iload_n rfl rfl (xnm_no rfl) ?_
    refine e_iload_n rfl rfl (xnm_no rfl) ?_
    obtain ⟨w1, hw2, h⟩ := xbd_some h
    refine e_cIS (hc := hw2) (rest := []) rfl rfl rfl rfl rfl rfl rfl rfl (xnm_no rfl) ?_
    refine e_if_eq (t := 49) rfl rfl (xnm_no rfl) (xnm_no rfl) h (fun h => ?_) (fun h => ?_)
    · refine e_iload_n rfl rfl (xnm_no rfl) ?_
      refine e_aload_n rfl rfl rfl (xnm_no rfl) ?_
      refine e_getR (r := 10) rfl rfl rfl rfl rfl (xnm_no rfl) ?_
      refine e_getR (r := 11) rfl rfl rfl rfl rfl (xnm_no rfl) ?_
      refine e_iload_n rfl rfl (xnm_no rfl) ?_
      obtain ⟨w3, hw4, h⟩ := xbd_some h
      refine e_cIS (hc := hw4) (rest := [.int _]) rfl rfl rfl rfl rfl rfl rfl rfl (xnm_no rfl) ?_
      refine e_ior rfl (xnm_no rfl) ?_
      refine e_istore_n rfl rfl (xnm_no rfl) ?_
      refine e_iinc (y := 1) rfl rfl rfl (by decide) (xnm_no rfl) ?_
      refine e_goto (t := 31) rfl rfl rfl ?_
      exact xlfI h
    · refine e_iload rfl rfl (xnm_no rfl) ?_
      cases h
      exact e_retI rfl rfl
set_option maxRecDepth 4000 in
theorem fX12_laysFar_144_i (v1 : Int32) (m : xmm) {z : xmm} (h : (bX12_laysFar_144_2 v1 (0 : Int32) m) = some z) : fX12_laysFar_144 v1 m = some z := by
  refine xstV ?_
  show xT 221 1 0 [(0, .ref 144), (1, .int v1)] [] m (none, z)
  refine e_iconst (x := 0) rfl (by decide) (xnm_no rfl) ?_
  refine e_istore_n rfl rfl rfl ?_
  exact xlfV h
set_option maxRecDepth 4000 in
theorem bX12_laysFar_144_2_i (v1 : Int32) (v2 : Int32) (m : xmm) {z : xmm} (h : (if (8 : Int32) ≤ v2 then bX12_laysFar_144_33 (0 : Int32) m else if v2 = v1 then xgd (xinb 8 v2) (xlt (xwi m 171 (v2).toNatClampNeg (0 : Int32)) fun (m4 : xmm) => bX12_laysFar_144_2 v1 (v2 + (1 : Int32)) m4) else xgd (xinb 8 v2) (xlt (xwi m 171 (v2).toNatClampNeg (-2 : Int32)) fun (m2 : xmm) => bX12_laysFar_144_2 v1 (v2 + (1 : Int32)) m2)) = some z) : bX12_laysFar_144_2 v1 v2 m = some z := by
  refine xstV ?_
  show xT 221 1 2 [(0, .ref 144), (1, .int v1), (2, .int v2)] [] m (none, z)
  refine e_iload_n rfl rfl (xnm_no rfl) ?_
  refine e_bipush (x := 8) rfl (by decide) (xnm_no rfl) ?_
  refine e_icmp_ge (t := 31) rfl rfl (xnm_no rfl) (xnm_no rfl) h (fun h => ?_) (fun h => ?_)
  · refine e_iconst (x := 0) rfl (by decide) (xnm_no rfl) ?_
    refine e_istore_n rfl rfl rfl ?_
    exact xlfV h
  · refine e_aload_n rfl rfl rfl (xnm_no rfl) ?_
    refine e_getR (r := 171) rfl rfl rfl rfl rfl (xnm_no rfl) ?_
    refine e_iload_n rfl rfl (xnm_no rfl) ?_
    refine e_iload_n rfl rfl (xnm_no rfl) ?_
    refine e_iload_n rfl rfl (xnm_no rfl) ?_
    refine e_icmp_ne (t := 22) rfl rfl (xnm_no rfl) (xnm_no rfl) h (fun h => ?_) (fun h => ?_)
    · refine e_bipush (x := -2) rfl (by decide) (xnm_no rfl) ?_
      obtain ⟨g1, h⟩ := xgd_some h
      refine e_iast rfl g1 (xnm_no rfl) ?_
      replace h := xlt_b h
      refine e_iinc (y := 1) rfl rfl rfl (by decide) (xnm_no rfl) ?_
      refine e_goto (t := 2) rfl rfl rfl ?_
      exact xlfV h
    · refine e_iconst (x := 0) rfl (by decide) (xnm_no rfl) ?_
      refine e_goto (t := 24) rfl rfl (xnm_no rfl) ?_
      obtain ⟨g3, h⟩ := xgd_some h
      refine e_iast rfl g3 (xnm_no rfl) ?_
      replace h := xlt_b h
      refine e_iinc (y := 1) rfl rfl rfl (by decide) (xnm_no rfl) ?_
      refine e_goto (t := 2) rfl rfl rfl ?_
      exact xlfV h
set_option maxRecDepth 4000 in
theorem bX12_laysFar_144_33_i (v2 : Int32) (m : xmm) {z : xmm} (h : (if (m.1 144 17) ≤ v2 then some m else bX12_laysFar_144_43 v2 (0 : Int32) m) = some z) : bX12_laysFar_144_33 v2 m = some z := by
  refine xstV ?_
  show xT 221 1 33 [(0, .ref 144), (2, .int v2)] [] m (none, z)
  refine e_iload_n rfl rfl (xnm_no rfl) ?_
  refine e_aload_n rfl rfl rfl (xnm_no rfl) ?_
  refine e_getI rfl rfl rfl rfl (xnm_no rfl) ?_
  refine e_icmp_ge (t := 125) rfl rfl (xnm_no rfl) (xnm_no rfl) h (fun h => ?_) (fun h => ?_)
  · cases h
    exact e_retV rfl rfl
  · refine e_iconst (x := 0) rfl (by decide) (xnm_no rfl) ?_
    refine e_istore_n rfl rfl rfl ?_
    exact xlfV h
set_option maxRecDepth 4000 in
theorem bX12_laysFar_144_43_i (v2 : Int32) (v3 : Int32) (m : xmm) {z : xmm} (h : (if (m.1 144 17) ≤ v3 then bX12_laysFar_144_33 (v2 + (1 : Int32)) m else bX12_laysFar_144_54 v2 v3 (0 : Int32) m) = some z) : bX12_laysFar_144_43 v2 v3 m = some z := by
  refine xstV ?_
  show xT 221 1 43 [(0, .ref 144), (2, .int v2), (3, .int v3)] [] m (none, z)
  refine e_iload_n rfl rfl (xnm_no rfl) ?_
  refine e_aload_n rfl rfl rfl (xnm_no rfl) ?_
  refine e_getI rfl rfl rfl rfl (xnm_no rfl) ?_
  refine e_icmp_ge (t := 119) rfl rfl (xnm_no rfl) (xnm_no rfl) h (fun h => ?_) (fun h => ?_)
  · refine e_iinc (y := 1) rfl rfl rfl (by decide) (xnm_no rfl) ?_
    refine e_goto (t := 33) rfl rfl rfl ?_
    exact xlfV h
  · refine e_iconst (x := 0) rfl (by decide) (xnm_no rfl) ?_
    refine e_istore rfl rfl rfl ?_
    exact xlfV h
set_option maxRecDepth 4000 in
theorem bX12_laysFar_144_54_i (v2 : Int32) (v3 : Int32) (v4 : Int32) (m : xmm) {z : xmm} (h : (if (m.1 144 17) ≤ v4 then bX12_laysFar_144_43 v2 (v3 + (1 : Int32)) m else xgd (xinb 8 v3) (if (m.1 171 (v3).toNatClampNeg) = v2 then xgd (xinb 9 v3) ((fX12_has (m.1 152 (v3).toNatClampNeg) v4 m).bind fun (w3 : Int32 × xmm) => if w3.1 = 0 then bX12_laysFar_144_54 v2 v3 (v4 + (1 : Int32)) w3.2 else xgd (xinb 8 v4) (if 0 ≤ (w3.2.1 171 (v4).toNatClampNeg) then bX12_laysFar_144_54 v2 v3 (v4 + (1 : Int32)) w3.2 else xlt (xwi w3.2 171 (v4).toNatClampNeg (v2 + (1 : Int32))) fun (m6 : xmm) => bX12_laysFar_144_54 v2 v3 (v4 + (1 : Int32)) m6)) else bX12_laysFar_144_54 v2 v3 (v4 + (1 : Int32)) m)) = some z) : bX12_laysFar_144_54 v2 v3 v4 m = some z := by
  refine xstV ?_
  show xT 221 1 54 [(0, .ref 144), (2, .int v2), (3, .int v3), (4, .int v4)] [] m (none, z)
  refine e_iload rfl rfl (xnm_no rfl) ?_
  refine e_aload_n rfl rfl rfl (xnm_no rfl) ?_
  refine e_getI rfl rfl rfl rfl (xnm_no rfl) ?_
  refine e_icmp_ge (t := 113) rfl rfl (xnm_no rfl) (xnm_no rfl) h (fun h => ?_) (fun h => ?_)
  · refine e_iinc (y := 1) rfl rfl rfl (by decide) (xnm_no rfl) ?_
    refine e_goto (t := 43) rfl rfl rfl ?_
    exact xlfV h
  · refine e_aload_n rfl rfl rfl (xnm_no rfl) ?_
    refine e_getR (r := 171) rfl rfl rfl rfl rfl (xnm_no rfl) ?_
    refine e_iload_n rfl rfl (xnm_no rfl) ?_
    obtain ⟨g1, h⟩ := xgd_some h
    refine e_iald rfl g1 (xnm_no rfl) ?_
    refine e_iload_n rfl rfl (xnm_no rfl) ?_
    refine e_icmp_ne (t := 107) rfl rfl (xnm_no rfl) (xnm_no rfl) h (fun h => ?_) (fun h => ?_)
    · refine e_iinc (y := 1) rfl rfl rfl (by decide) (xnm_no rfl) ?_
      refine e_goto (t := 54) rfl rfl rfl ?_
      exact xlfV h
    · refine e_aload_n rfl rfl rfl (xnm_no rfl) ?_
      refine e_getR (r := 152) rfl rfl rfl rfl rfl (xnm_no rfl) ?_
      refine e_iload_n rfl rfl (xnm_no rfl) ?_
      obtain ⟨g2, h⟩ := xgd_some h
      refine e_iald rfl g2 (xnm_no rfl) ?_
      refine e_iload rfl rfl (xnm_no rfl) ?_
      obtain ⟨w3, hw4, h⟩ := xbd_some h
      refine e_cIS (hc := hw4) (rest := []) rfl rfl rfl rfl rfl rfl rfl rfl (xnm_no rfl) ?_
      refine e_if_eq (t := 107) rfl rfl (xnm_no rfl) (xnm_no rfl) h (fun h => ?_) (fun h => ?_)
      · refine e_iinc (y := 1) rfl rfl rfl (by decide) (xnm_no rfl) ?_
        refine e_goto (t := 54) rfl rfl rfl ?_
        exact xlfV h
      · refine e_aload_n rfl rfl rfl (xnm_no rfl) ?_
        refine e_getR (r := 171) rfl rfl rfl rfl rfl (xnm_no rfl) ?_
        refine e_iload rfl rfl (xnm_no rfl) ?_
        obtain ⟨g5, h⟩ := xgd_some h
        refine e_iald rfl g5 (xnm_no rfl) ?_
        refine e_if_ge (t := 107) rfl rfl (xnm_no rfl) (xnm_no rfl) h (fun h => ?_) (fun h => ?_)
        · refine e_iinc (y := 1) rfl rfl rfl (by decide) (xnm_no rfl) ?_
          refine e_goto (t := 54) rfl rfl rfl ?_
          exact xlfV h
        · refine e_aload_n rfl rfl rfl (xnm_no rfl) ?_
          refine e_getR (r := 171) rfl rfl rfl rfl rfl (xnm_no rfl) ?_
          refine e_iload rfl rfl (xnm_no rfl) ?_
          refine e_iload_n rfl rfl (xnm_no rfl) ?_
          refine e_iconst (x := 1) rfl (by decide) (xnm_no rfl) ?_
          refine e_iadd rfl (xnm_no rfl) ?_
          refine e_iast rfl g5 (xnm_no rfl) ?_
          replace h := xlt_b h
          refine e_iinc (y := 1) rfl rfl rfl (by decide) (xnm_no rfl) ?_
          refine e_goto (t := 54) rfl rfl rfl ?_
          exact xlfV h
set_option maxRecDepth 4000 in
theorem fX12_far_144_i (v1 : Int32) (v2 : Int32) (m : xmm) {z : Int32 × xmm} (h : ((fX12_isPost_144 v1 m).bind fun (w1 : Int32 × xmm) => if w1.1 = 0 then some ((-1 : Int32), w1.2) else (fX12_isPost_144 v2 w1.2).bind fun (w3 : Int32 × xmm) => if w3.1 = 0 then some ((-1 : Int32), w3.2) else (fX12_laysFar_144 v1 w3.2).bind fun (w5 : xmm) => xgd (xinb 8 v2) (some ((w5.1 171 (v2).toNatClampNeg), w5))) = some z) : fX12_far_144 v1 v2 m = some z := by
  refine xstI ?_
  show xT 222 2 0 [(0, .ref 144), (1, .int v1), (2, .int v2)] [] m (some (.int z.1), z.2)
  refine e_aload_n rfl rfl rfl (xnm_no rfl) ?_
  refine e_iload_n rfl rfl (xnm_no rfl) ?_
  obtain ⟨w1, hw2, h⟩ := xbd_some h
  refine e_cIV (hc := hw2) (rest := []) rfl rfl rfl rfl rfl rfl rfl rfl (xnm_no rfl) ?_
  refine e_if_eq (t := 16) rfl rfl (xnm_no rfl) (xnm_no rfl) h (fun h => ?_) (fun h => ?_)
  · refine e_iconst (x := -1) rfl (by decide) (xnm_no rfl) ?_
    cases h
    exact e_retI rfl rfl
  · refine e_aload_n rfl rfl rfl (xnm_no rfl) ?_
    refine e_iload_n rfl rfl (xnm_no rfl) ?_
    obtain ⟨w3, hw4, h⟩ := xbd_some h
    refine e_cIV (hc := hw4) (rest := []) rfl rfl rfl rfl rfl rfl rfl rfl (xnm_no rfl) ?_
    refine e_if_ne (t := 18) rfl rfl (xnm_no rfl) (xnm_no rfl) h (fun h => ?_) (fun h => ?_)
    · refine e_aload_n rfl rfl rfl (xnm_no rfl) ?_
      refine e_iload_n rfl rfl (xnm_no rfl) ?_
      obtain ⟨w5, hw6, h⟩ := xbd_some h
      refine e_cVV (hc := hw6) (rest := []) rfl rfl rfl rfl rfl rfl rfl rfl (xnm_no rfl) ?_
      refine e_aload_n rfl rfl rfl (xnm_no rfl) ?_
      refine e_getR (r := 171) rfl rfl rfl rfl rfl (xnm_no rfl) ?_
      refine e_iload_n rfl rfl (xnm_no rfl) ?_
      obtain ⟨g7, h⟩ := xgd_some h
      refine e_iald rfl g7 (xnm_no rfl) ?_
      cases h
      exact e_retI rfl rfl
    · refine e_iconst (x := -1) rfl (by decide) (xnm_no rfl) ?_
      cases h
      exact e_retI rfl rfl
set_option maxRecDepth 4000 in
theorem fX11_near_0_i (v1 : Int32) (m : xmm) {z : Int32 × xmm} (h : ((fX3_hasPost 10 v1 m).bind fun (w1 : Int32 × xmm) => if w1.1 = 0 then some ((-1 : Int32), w1.2) else (fX3_rowOf 10 v1 w1.2).bind fun (w3 : Int32 × xmm) => some (w3.1, w3.2)) = some z) : fX11_near_0 v1 m = some z := by
  refine xstI ?_
  show xT 127 2 0 [(0, .ref 0), (1, .int v1)] [] m (some (.int z.1), z.2)
  refine e_aload_n rfl rfl rfl (xnm_no rfl) ?_
  refine e_getR (r := 10) rfl rfl rfl rfl rfl (xnm_no rfl) ?_
  refine e_iload_n rfl rfl (xnm_no rfl) ?_
  obtain ⟨w1, hw2, h⟩ := xbd_some h
  refine e_cIV (hc := hw2) (rest := []) rfl rfl rfl rfl rfl rfl rfl rfl (xnm_no rfl) ?_
  refine e_if_eq (t := 22) rfl rfl (xnm_no rfl) (xnm_no rfl) h (fun h => ?_) (fun h => ?_)
  · refine e_iconst (x := -1) rfl (by decide) (xnm_no rfl) ?_
    cases h
    exact e_retI rfl rfl
  · refine e_aload_n rfl rfl rfl (xnm_no rfl) ?_
    refine e_getR (r := 10) rfl rfl rfl rfl rfl (xnm_no rfl) ?_
    refine e_iload_n rfl rfl (xnm_no rfl) ?_
    obtain ⟨w3, hw4, h⟩ := xbd_some h
    refine e_cIV (hc := hw4) (rest := []) rfl rfl rfl rfl rfl rfl rfl rfl (xnm_no rfl) ?_
    refine e_goto (t := 23) rfl rfl (xnm_no rfl) ?_
    cases h
    exact e_retI rfl rfl
set_option maxRecDepth 4000 in
theorem fX12_near_144_i (v1 : Int32) (m : xmm) {z : Int32 × xmm} (h : ((fX12_isPost_144 v1 m).bind fun (w1 : Int32 × xmm) => if w1.1 = 0 then some ((-1 : Int32), w1.2) else xgd (xinb 9 v1) (some ((w1.2.1 152 (v1).toNatClampNeg), w1.2))) = some z) : fX12_near_144 v1 m = some z := by
  refine xstI ?_
  show xT 198 2 0 [(0, .ref 144), (1, .int v1)] [] m (some (.int z.1), z.2)
  refine e_aload_n rfl rfl rfl (xnm_no rfl) ?_
  refine e_iload_n rfl rfl (xnm_no rfl) ?_
  obtain ⟨w1, hw2, h⟩ := xbd_some h
  refine e_cIV (hc := hw2) (rest := []) rfl rfl rfl rfl rfl rfl rfl rfl (xnm_no rfl) ?_
  refine e_if_eq (t := 17) rfl rfl (xnm_no rfl) (xnm_no rfl) h (fun h => ?_) (fun h => ?_)
  · refine e_iconst (x := -1) rfl (by decide) (xnm_no rfl) ?_
    cases h
    exact e_retI rfl rfl
  · refine e_aload_n rfl rfl rfl (xnm_no rfl) ?_
    refine e_getR (r := 152) rfl rfl rfl rfl rfl (xnm_no rfl) ?_
    refine e_iload_n rfl rfl (xnm_no rfl) ?_
    obtain ⟨g3, h⟩ := xgd_some h
    refine e_iald rfl g3 (xnm_no rfl) ?_
    refine e_goto (t := 18) rfl rfl (xnm_no rfl) ?_
    cases h
    exact e_retI rfl rfl
set_option maxRecDepth 4000 in
theorem fX6_compels_i (v0 : Nat) (v1 : Int32) (v2 : Int32) (m : xmm) {z : Int32 × xmm} (h : (if (v1 / (8 : Int32)) = (v2 / (8 : Int32)) then if (v1 - v1 / (8 : Int32) * (8 : Int32)) = (v2 - v2 / (8 : Int32) * (8 : Int32)) then some ((0 : Int32), m) else xgd (!(Nat.beq v0 1999)) (xgd (xia 1 v0 (v1 / (8 : Int32))) ((fX11_contains (m.1 v0 ((v1 / (8 : Int32))).toNatClampNeg) (v2 - v2 / (8 : Int32) * (8 : Int32)) m).bind fun (w10 : Int32 × xmm) => if w10.1 = 0 then some ((0 : Int32), w10.2) else xgd (xia 1 v0 (v1 - v1 / (8 : Int32) * (8 : Int32))) ((fX11_contains (w10.2.1 v0 ((v1 - v1 / (8 : Int32) * (8 : Int32))).toNatClampNeg) (v2 - v2 / (8 : Int32) * (8 : Int32)) w10.2).bind fun (w13 : Int32 × xmm) => if w13.1 = 0 then some ((1 : Int32), w13.2) else some ((0 : Int32), w13.2)))) else if (v1 - v1 / (8 : Int32) * (8 : Int32)) = (v2 - v2 / (8 : Int32) * (8 : Int32)) then xgd (!(Nat.beq v0 1999)) (xgd (xia 1 v0 (v1 - v1 / (8 : Int32) * (8 : Int32))) ((fX11_contains (m.1 v0 ((v1 - v1 / (8 : Int32) * (8 : Int32))).toNatClampNeg) (v2 / (8 : Int32)) m).bind fun (w3 : Int32 × xmm) => if w3.1 = 0 then some ((0 : Int32), w3.2) else xgd (xia 1 v0 (v1 / (8 : Int32))) ((fX11_contains (w3.2.1 v0 ((v1 / (8 : Int32))).toNatClampNeg) (v2 / (8 : Int32)) w3.2).bind fun (w6 : Int32 × xmm) => if w6.1 = 0 then some ((1 : Int32), w6.2) else some ((0 : Int32), w6.2)))) else some ((0 : Int32), m)) = some z) : fX6_compels v0 v1 v2 m = some z := by
  refine xstI ?_
  show xT 65 1 0 [(0, .ref v0), (1, .int v1), (2, .int v2)] [] m (some (.int z.1), z.2)
  refine e_iload_n rfl rfl (xnm_no rfl) ?_
  refine e_bipush (x := 8) rfl (by decide) (xnm_no rfl) ?_
  refine e_idiv rfl (by decide) (xnm_no rfl) ?_
  refine e_istore_n rfl rfl (xnm_no rfl) ?_
  refine e_iload_n rfl rfl (xnm_no rfl) ?_
  refine e_bipush (x := 8) rfl (by decide) (xnm_no rfl) ?_
  refine e_irem rfl (by decide) (xnm_no rfl) ?_
  refine e_istore rfl rfl (xnm_no rfl) ?_
  refine e_iload_n rfl rfl (xnm_no rfl) ?_
  refine e_bipush (x := 8) rfl (by decide) (xnm_no rfl) ?_
  refine e_idiv rfl (by decide) (xnm_no rfl) ?_
  refine e_istore rfl rfl (xnm_no rfl) ?_
  refine e_iload_n rfl rfl (xnm_no rfl) ?_
  refine e_bipush (x := 8) rfl (by decide) (xnm_no rfl) ?_
  refine e_irem rfl (by decide) (xnm_no rfl) ?_
  refine e_istore rfl rfl (xnm_no rfl) ?_
  refine e_iload_n rfl rfl (xnm_no rfl) ?_
  refine e_iload rfl rfl (xnm_no rfl) ?_
  refine e_icmp_ne (t := 65) rfl rfl (xnm_no rfl) (xnm_no rfl) h (fun h => ?_) (fun h => ?_)
  · refine e_iload rfl rfl (xnm_no rfl) ?_
    refine e_iload rfl rfl (xnm_no rfl) ?_
    refine e_icmp_ne (t := 99) rfl rfl (xnm_no rfl) (xnm_no rfl) h (fun h => ?_) (fun h => ?_)
    · refine e_iconst (x := 0) rfl (by decide) (xnm_no rfl) ?_
      cases h
      exact e_retI rfl (by decide)
    · obtain ⟨g1, h⟩ := xgd_some h
      refine e_aload_n rfl rfl (xnb g1) (xnm_no rfl) ?_
      refine e_iload rfl rfl (xnm_no rfl) ?_
      obtain ⟨g2, h⟩ := xgd_some h
      refine e_iald rfl g2 (xnm_no rfl) ?_
      refine e_iload rfl rfl (xnm_no rfl) ?_
      obtain ⟨w3, hw4, h⟩ := xbd_some h
      refine e_cIS (hc := hw4) (rest := []) rfl rfl rfl rfl rfl rfl rfl rfl (xnm_no rfl) ?_
      refine e_if_eq (t := 99) rfl rfl (xnm_no rfl) (xnm_no rfl) h (fun h => ?_) (fun h => ?_)
      · refine e_iconst (x := 0) rfl (by decide) (xnm_no rfl) ?_
        cases h
        exact e_retI rfl (by decide)
      · refine e_aload_n rfl rfl (xnb g1) (xnm_no rfl) ?_
        refine e_iload_n rfl rfl (xnm_no rfl) ?_
        obtain ⟨g5, h⟩ := xgd_some h
        refine e_iald rfl g5 (xnm_no rfl) ?_
        refine e_iload rfl rfl (xnm_no rfl) ?_
        obtain ⟨w6, hw7, h⟩ := xbd_some h
        refine e_cIS (hc := hw7) (rest := []) rfl rfl rfl rfl rfl rfl rfl rfl (xnm_no rfl) ?_
        refine e_if_ne (t := 99) rfl rfl (xnm_no rfl) (xnm_no rfl) h (fun h => ?_) (fun h => ?_)
        · refine e_iconst (x := 0) rfl (by decide) (xnm_no rfl) ?_
          cases h
          exact e_retI rfl (by decide)
        · refine e_iconst (x := 1) rfl (by decide) (xnm_no rfl) ?_
          refine e_goto (t := 100) rfl rfl (xnm_no rfl) ?_
          cases h
          exact e_retI rfl (by decide)
  · refine e_iload rfl rfl (xnm_no rfl) ?_
    refine e_iload rfl rfl (xnm_no rfl) ?_
    refine e_icmp_eq (t := 63) rfl rfl (xnm_no rfl) (xnm_no rfl) h (fun h => ?_) (fun h => ?_)
    · refine e_iconst (x := 0) rfl (by decide) (xnm_no rfl) ?_
      cases h
      exact e_retI rfl (by decide)
    · obtain ⟨g8, h⟩ := xgd_some h
      refine e_aload_n rfl rfl (xnb g8) (xnm_no rfl) ?_
      refine e_iload_n rfl rfl (xnm_no rfl) ?_
      obtain ⟨g9, h⟩ := xgd_some h
      refine e_iald rfl g9 (xnm_no rfl) ?_
      refine e_iload rfl rfl (xnm_no rfl) ?_
      obtain ⟨w10, hw11, h⟩ := xbd_some h
      refine e_cIS (hc := hw11) (rest := []) rfl rfl rfl rfl rfl rfl rfl rfl (xnm_no rfl) ?_
      refine e_if_eq (t := 63) rfl rfl (xnm_no rfl) (xnm_no rfl) h (fun h => ?_) (fun h => ?_)
      · refine e_iconst (x := 0) rfl (by decide) (xnm_no rfl) ?_
        cases h
        exact e_retI rfl (by decide)
      · refine e_aload_n rfl rfl (xnb g8) (xnm_no rfl) ?_
        refine e_iload rfl rfl (xnm_no rfl) ?_
        obtain ⟨g12, h⟩ := xgd_some h
        refine e_iald rfl g12 (xnm_no rfl) ?_
        refine e_iload rfl rfl (xnm_no rfl) ?_
        obtain ⟨w13, hw14, h⟩ := xbd_some h
        refine e_cIS (hc := hw14) (rest := []) rfl rfl rfl rfl rfl rfl rfl rfl (xnm_no rfl) ?_
        refine e_if_ne (t := 63) rfl rfl (xnm_no rfl) (xnm_no rfl) h (fun h => ?_) (fun h => ?_)
        · refine e_iconst (x := 0) rfl (by decide) (xnm_no rfl) ?_
          cases h
          exact e_retI rfl (by decide)
        · refine e_iconst (x := 1) rfl (by decide) (xnm_no rfl) ?_
          refine e_goto (t := 64) rfl rfl (xnm_no rfl) ?_
          cases h
          exact e_retI rfl (by decide)
set_option maxRecDepth 4000 in
theorem fX11_forces_0_i (v1 : Int32) (v2 : Int32) (v3 : Int32) (v4 : Int32) (m : xmm) {z : Int32 × xmm} (h : ((fX3_hasLine 10 v1 v2 m).bind fun (w1 : Int32 × xmm) => if w1.1 = 0 then some ((-1 : Int32), w1.2) else (fX3_hasLine 10 v3 v4 w1.2).bind fun (w3 : Int32 × xmm) => if w3.1 = 0 then some ((-1 : Int32), w3.2) else (fX11_arrowFrom v1 v2 w3.2).bind fun (w5 : Int32 × xmm) => (fX11_arrowFrom v3 v4 w5.2).bind fun (w7 : Int32 × xmm) => (fX6_compels 11 w5.1 w7.1 w7.2).bind fun (w9 : Int32 × xmm) => (fX11_bit w9.1 w9.2).bind fun (w11 : Int32 × xmm) => some (w11.1, w11.2)) = some z) : fX11_forces_0 v1 v2 v3 v4 m = some z := by
  refine xstI ?_
  show xT 128 3 0 [(0, .ref 0), (1, .int v1), (2, .int v2), (3, .int v3), (4, .int v4)] [] m (some (.int z.1), z.2)
  refine e_aload_n rfl rfl rfl (xnm_no rfl) ?_
  refine e_getR (r := 10) rfl rfl rfl rfl rfl (xnm_no rfl) ?_
  refine e_iload_n rfl rfl (xnm_no rfl) ?_
  refine e_iload_n rfl rfl (xnm_no rfl) ?_
  obtain ⟨w1, hw2, h⟩ := xbd_some h
  refine e_cIV (hc := hw2) (rest := []) rfl rfl rfl rfl rfl rfl rfl rfl (xnm_no rfl) ?_
  refine e_if_eq (t := 25) rfl rfl (xnm_no rfl) (xnm_no rfl) h (fun h => ?_) (fun h => ?_)
  · refine e_iconst (x := -1) rfl (by decide) (xnm_no rfl) ?_
    cases h
    exact e_retI rfl rfl
  · refine e_aload_n rfl rfl rfl (xnm_no rfl) ?_
    refine e_getR (r := 10) rfl rfl rfl rfl rfl (xnm_no rfl) ?_
    refine e_iload_n rfl rfl (xnm_no rfl) ?_
    refine e_iload rfl rfl (xnm_no rfl) ?_
    obtain ⟨w3, hw4, h⟩ := xbd_some h
    refine e_cIV (hc := hw4) (rest := []) rfl rfl rfl rfl rfl rfl rfl rfl (xnm_no rfl) ?_
    refine e_if_ne (t := 27) rfl rfl (xnm_no rfl) (xnm_no rfl) h (fun h => ?_) (fun h => ?_)
    · refine e_aload_n rfl rfl rfl (xnm_no rfl) ?_
      refine e_getR (r := 10) rfl rfl rfl rfl rfl (xnm_no rfl) ?_
      refine e_getR (r := 11) rfl rfl rfl rfl rfl (xnm_no rfl) ?_
      refine e_iload_n rfl rfl (xnm_no rfl) ?_
      refine e_iload_n rfl rfl (xnm_no rfl) ?_
      obtain ⟨w5, hw6, h⟩ := xbd_some h
      refine e_cIS (hc := hw6) (rest := [.ref 11]) rfl rfl rfl rfl rfl rfl rfl rfl (xnm_no rfl) ?_
      refine e_iload_n rfl rfl (xnm_no rfl) ?_
      refine e_iload rfl rfl (xnm_no rfl) ?_
      obtain ⟨w7, hw8, h⟩ := xbd_some h
      refine e_cIS (hc := hw8) (rest := [.int _, .ref 11]) rfl rfl rfl rfl rfl rfl rfl rfl (xnm_no rfl) ?_
      obtain ⟨w9, hw10, h⟩ := xbd_some h
      refine e_cIS (hc := hw10) (rest := []) rfl rfl rfl rfl rfl rfl rfl rfl (xnm_no rfl) ?_
      obtain ⟨w11, hw12, h⟩ := xbd_some h
      refine e_cIS (hc := hw12) (rest := []) rfl rfl rfl rfl rfl rfl rfl rfl (xnm_no rfl) ?_
      cases h
      exact e_retI rfl rfl
    · refine e_iconst (x := -1) rfl (by decide) (xnm_no rfl) ?_
      cases h
      exact e_retI rfl rfl
set_option maxRecDepth 4000 in
theorem fX12_forces_144_i (v1 : Int32) (v2 : Int32) (v3 : Int32) (v4 : Int32) (m : xmm) {z : Int32 × xmm} (h : ((fX12_isPost_144 v1 m).bind fun (w1 : Int32 × xmm) => if w1.1 = 0 then some ((-1 : Int32), w1.2) else (fX12_isPost_144 v2 w1.2).bind fun (w3 : Int32 × xmm) => if w3.1 = 0 then some ((-1 : Int32), w3.2) else (fX12_isPost_144 v3 w3.2).bind fun (w5 : Int32 × xmm) => if w5.1 = 0 then some ((-1 : Int32), w5.2) else (fX12_isPost_144 v4 w5.2).bind fun (w7 : Int32 × xmm) => if w7.1 = 0 then some ((-1 : Int32), w7.2) else (fX12_isArrow 152 v1 v2 w7.2).bind fun (w9 : Int32 × xmm) => if w9.1 = 0 then some ((-1 : Int32), w9.2) else (fX12_isArrow 152 v3 v4 w9.2).bind fun (w11 : Int32 × xmm) => if w11.1 = 0 then some ((-1 : Int32), w11.2) else (fX12_forcesIt 152 (((8 : Int32) * v1) + v2) (((8 : Int32) * v3) + v4) w11.2).bind fun (w13 : Int32 × xmm) => if w13.1 = 0 then some ((0 : Int32), w13.2) else some ((1 : Int32), w13.2)) = some z) : fX12_forces_144 v1 v2 v3 v4 m = some z := by
  refine xstI ?_
  show xT 201 3 0 [(0, .ref 144), (1, .int v1), (2, .int v2), (3, .int v3), (4, .int v4)] [] m (some (.int z.1), z.2)
  refine e_aload_n rfl rfl rfl (xnm_no rfl) ?_
  refine e_iload_n rfl rfl (xnm_no rfl) ?_
  obtain ⟨w1, hw2, h⟩ := xbd_some h
  refine e_cIV (hc := hw2) (rest := []) rfl rfl rfl rfl rfl rfl rfl rfl (xnm_no rfl) ?_
  refine e_if_eq (t := 58) rfl rfl (xnm_no rfl) (xnm_no rfl) h (fun h => ?_) (fun h => ?_)
  · refine e_iconst (x := -1) rfl (by decide) (xnm_no rfl) ?_
    cases h
    exact e_retI rfl rfl
  · refine e_aload_n rfl rfl rfl (xnm_no rfl) ?_
    refine e_iload_n rfl rfl (xnm_no rfl) ?_
    obtain ⟨w3, hw4, h⟩ := xbd_some h
    refine e_cIV (hc := hw4) (rest := []) rfl rfl rfl rfl rfl rfl rfl rfl (xnm_no rfl) ?_
    refine e_if_eq (t := 58) rfl rfl (xnm_no rfl) (xnm_no rfl) h (fun h => ?_) (fun h => ?_)
    · refine e_iconst (x := -1) rfl (by decide) (xnm_no rfl) ?_
      cases h
      exact e_retI rfl rfl
    · refine e_aload_n rfl rfl rfl (xnm_no rfl) ?_
      refine e_iload_n rfl rfl (xnm_no rfl) ?_
      obtain ⟨w5, hw6, h⟩ := xbd_some h
      refine e_cIV (hc := hw6) (rest := []) rfl rfl rfl rfl rfl rfl rfl rfl (xnm_no rfl) ?_
      refine e_if_eq (t := 58) rfl rfl (xnm_no rfl) (xnm_no rfl) h (fun h => ?_) (fun h => ?_)
      · refine e_iconst (x := -1) rfl (by decide) (xnm_no rfl) ?_
        cases h
        exact e_retI rfl rfl
      · refine e_aload_n rfl rfl rfl (xnm_no rfl) ?_
        refine e_iload rfl rfl (xnm_no rfl) ?_
        obtain ⟨w7, hw8, h⟩ := xbd_some h
        refine e_cIV (hc := hw8) (rest := []) rfl rfl rfl rfl rfl rfl rfl rfl (xnm_no rfl) ?_
        refine e_if_eq (t := 58) rfl rfl (xnm_no rfl) (xnm_no rfl) h (fun h => ?_) (fun h => ?_)
        · refine e_iconst (x := -1) rfl (by decide) (xnm_no rfl) ?_
          cases h
          exact e_retI rfl rfl
        · refine e_aload_n rfl rfl rfl (xnm_no rfl) ?_
          refine e_getR (r := 152) rfl rfl rfl rfl rfl (xnm_no rfl) ?_
          refine e_iload_n rfl rfl (xnm_no rfl) ?_
          refine e_iload_n rfl rfl (xnm_no rfl) ?_
          obtain ⟨w9, hw10, h⟩ := xbd_some h
          refine e_cIS (hc := hw10) (rest := []) rfl rfl rfl rfl rfl rfl rfl rfl (xnm_no rfl) ?_
          refine e_if_eq (t := 58) rfl rfl (xnm_no rfl) (xnm_no rfl) h (fun h => ?_) (fun h => ?_)
          · refine e_iconst (x := -1) rfl (by decide) (xnm_no rfl) ?_
            cases h
            exact e_retI rfl rfl
          · refine e_aload_n rfl rfl rfl (xnm_no rfl) ?_
            refine e_getR (r := 152) rfl rfl rfl rfl rfl (xnm_no rfl) ?_
            refine e_iload_n rfl rfl (xnm_no rfl) ?_
            refine e_iload rfl rfl (xnm_no rfl) ?_
            obtain ⟨w11, hw12, h⟩ := xbd_some h
            refine e_cIS (hc := hw12) (rest := []) rfl rfl rfl rfl rfl rfl rfl rfl (xnm_no rfl) ?_
            refine e_if_ne (t := 60) rfl rfl (xnm_no rfl) (xnm_no rfl) h (fun h => ?_) (fun h => ?_)
            · refine e_aload_n rfl rfl rfl (xnm_no rfl) ?_
              refine e_getR (r := 152) rfl rfl rfl rfl rfl (xnm_no rfl) ?_
              refine e_bipush (x := 8) rfl (by decide) (xnm_no rfl) ?_
              refine e_iload_n rfl rfl (xnm_no rfl) ?_
              refine e_imul rfl (xnm_no rfl) ?_
              refine e_iload_n rfl rfl (xnm_no rfl) ?_
              refine e_iadd rfl (xnm_no rfl) ?_
              refine e_bipush (x := 8) rfl (by decide) (xnm_no rfl) ?_
              refine e_iload_n rfl rfl (xnm_no rfl) ?_
              refine e_imul rfl (xnm_no rfl) ?_
              refine e_iload rfl rfl (xnm_no rfl) ?_
              refine e_iadd rfl (xnm_no rfl) ?_
              obtain ⟨w13, hw14, h⟩ := xbd_some h
              refine e_cIS (hc := hw14) (rest := []) rfl rfl rfl rfl rfl rfl rfl rfl (xnm_no rfl) ?_
              refine e_if_eq (t := 87) rfl rfl (xnm_no rfl) (xnm_no rfl) h (fun h => ?_) (fun h => ?_)
              · refine e_iconst (x := 0) rfl (by decide) (xnm_no rfl) ?_
                cases h
                exact e_retI rfl rfl
              · refine e_iconst (x := 1) rfl (by decide) (xnm_no rfl) ?_
                refine e_goto (t := 88) rfl rfl (xnm_no rfl) ?_
                cases h
                exact e_retI rfl rfl
            · refine e_iconst (x := -1) rfl (by decide) (xnm_no rfl) ?_
              cases h
              exact e_retI rfl rfl
set_option maxRecDepth 4000 in
theorem fX1_sizeOf_97_i (v1 : Int32) (m : xmm) {z : Int32 × xmm} (h : (bX1_sizeOf_97_4 v1 (0 : Int32) (0 : Int32) m) = some z) : fX1_sizeOf_97 v1 m = some z := by
  refine xstI ?_
  show xT 12 0 0 [(0, .ref 97), (1, .int v1)] [] m (some (.int z.1), z.2)
  refine e_iconst (x := 0) rfl (by decide) (xnm_no rfl) ?_
  refine e_istore_n rfl rfl (xnm_no rfl) ?_
  refine e_iconst (x := 0) rfl (by decide) (xnm_no rfl) ?_
  refine e_istore_n rfl rfl rfl ?_
  exact xlfI h
set_option maxRecDepth 4000 in
theorem bX1_sizeOf_97_4_i (v1 : Int32) (v2 : Int32) (v3 : Int32) (m : xmm) {z : Int32 × xmm} (h : (if (64 : Int32) ≤ v3 then some (v2, m) else xgd (xinb 64 v3) (xgd (xinb 64 v1) (if (m.1 102 (v3).toNatClampNeg) = (m.1 102 (v1).toNatClampNeg) then bX1_sizeOf_97_4 v1 (v2 + (1 : Int32)) (v3 + (1 : Int32)) m else bX1_sizeOf_97_4 v1 v2 (v3 + (1 : Int32)) m))) = some z) : bX1_sizeOf_97_4 v1 v2 v3 m = some z := by
  refine xstI ?_
  show xT 12 0 4 [(0, .ref 97), (1, .int v1), (2, .int v2), (3, .int v3)] [] m (some (.int z.1), z.2)
  refine e_iload_n rfl rfl (xnm_no rfl) ?_
  refine e_bipush (x := 64) rfl (by decide) (xnm_no rfl) ?_
  refine e_icmp_ge (t := 34) rfl rfl (xnm_no rfl) (xnm_no rfl) h (fun h => ?_) (fun h => ?_)
  · refine e_iload_n rfl rfl (xnm_no rfl) ?_
    cases h
    exact e_retI rfl rfl
  · refine e_aload_n rfl rfl rfl (xnm_no rfl) ?_
    refine e_getR (r := 102) rfl rfl rfl rfl rfl (xnm_no rfl) ?_
    refine e_iload_n rfl rfl (xnm_no rfl) ?_
    obtain ⟨g1, h⟩ := xgd_some h
    refine e_iald rfl g1 (xnm_no rfl) ?_
    refine e_aload_n rfl rfl rfl (xnm_no rfl) ?_
    refine e_getR (r := 102) rfl rfl rfl rfl rfl (xnm_no rfl) ?_
    refine e_iload_n rfl rfl (xnm_no rfl) ?_
    obtain ⟨g2, h⟩ := xgd_some h
    refine e_iald rfl g2 (xnm_no rfl) ?_
    refine e_icmp_ne (t := 28) rfl rfl (xnm_no rfl) (xnm_no rfl) h (fun h => ?_) (fun h => ?_)
    · refine e_iinc (y := 1) rfl rfl rfl (by decide) (xnm_no rfl) ?_
      refine e_goto (t := 4) rfl rfl rfl ?_
      exact xlfI h
    · refine e_iinc (y := 1) rfl rfl rfl (by decide) (xnm_no rfl) ?_
      refine e_iinc (y := 1) rfl rfl rfl (by decide) (xnm_no rfl) ?_
      refine e_goto (t := 4) rfl rfl rfl ?_
      exact xlfI h
set_option maxRecDepth 4000 in
theorem fX1_linesOf_97_i (v1 : Int32) (m : xmm) {z : Int32 × xmm} (h : (bX1_linesOf_97_7 v1 (0 : Int32) (0 : Int32) (0 : Int32) m) = some z) : fX1_linesOf_97 v1 m = some z := by
  refine xstI ?_
  show xT 14 2 0 [(0, .ref 97), (1, .int v1)] [] m (some (.int z.1), z.2)
  refine e_iconst (x := 0) rfl (by decide) (xnm_no rfl) ?_
  refine e_istore_n rfl rfl (xnm_no rfl) ?_
  refine e_iconst (x := 0) rfl (by decide) (xnm_no rfl) ?_
  refine e_istore_n rfl rfl (xnm_no rfl) ?_
  refine e_iconst (x := 0) rfl (by decide) (xnm_no rfl) ?_
  refine e_istore rfl rfl rfl ?_
  exact xlfI h
set_option maxRecDepth 4000 in
theorem bX1_linesOf_97_7_i (v1 : Int32) (v2 : Int32) (v3 : Int32) (v4 : Int32) (m : xmm) {z : Int32 × xmm} (h : (if (64 : Int32) ≤ v4 then some (v2, m) else (fX11_against v4 m).bind fun (w1 : Int32 × xmm) => if w1.1 ≤ v4 then bX1_linesOf_97_7 v1 v2 v3 (v4 + (1 : Int32)) w1.2 else (fX11_isArrow 101 v4 w1.2).bind fun (w3 : Int32 × xmm) => if w3.1 = 0 then bX1_linesOf_97_7 v1 v2 v3 (v4 + (1 : Int32)) w3.2 else xgd (xinb 64 v4) (xgd (xinb 64 v1) (if (w3.2.1 102 (v4).toNatClampNeg) = (w3.2.1 102 (v1).toNatClampNeg) then bX1_linesOf_97_71 v1 v2 v3 v4 w3.2 else (fX11_against v4 w3.2).bind fun (w7 : Int32 × xmm) => xgd (xinb 64 w7.1) (if (w7.2.1 102 (w7.1).toNatClampNeg) = (w7.2.1 102 (v1).toNatClampNeg) then bX1_linesOf_97_71 v1 v2 v3 v4 w7.2 else bX1_linesOf_97_7 v1 v2 (v3 + (1 : Int32)) (v4 + (1 : Int32)) w7.2)))) = some z) : bX1_linesOf_97_7 v1 v2 v3 v4 m = some z := by
  refine xstI ?_
  show xT 14 2 7 [(0, .ref 97), (1, .int v1), (2, .int v2), (3, .int v3), (4, .int v4)] [] m (some (.int z.1), z.2)
  refine e_iload rfl rfl (xnm_no rfl) ?_
  refine e_bipush (x := 64) rfl (by decide) (xnm_no rfl) ?_
  refine e_icmp_ge (t := 86) rfl rfl (xnm_no rfl) (xnm_no rfl) h (fun h => ?_) (fun h => ?_)
  · refine e_iload_n rfl rfl (xnm_no rfl) ?_
    cases h
    exact e_retI rfl rfl
  · refine e_iload rfl rfl (xnm_no rfl) ?_
    refine e_iload rfl rfl (xnm_no rfl) ?_
    obtain ⟨w1, hw2, h⟩ := xbd_some h
    refine e_cIS (hc := hw2) (rest := [.int _]) rfl rfl rfl rfl rfl rfl rfl rfl (xnm_no rfl) ?_
    refine e_icmp_ge (t := 80) rfl rfl (xnm_no rfl) (xnm_no rfl) h (fun h => ?_) (fun h => ?_)
    · refine e_iinc (y := 1) rfl rfl rfl (by decide) (xnm_no rfl) ?_
      refine e_goto (t := 7) rfl rfl rfl ?_
      exact xlfI h
    · refine e_aload_n rfl rfl rfl (xnm_no rfl) ?_
      refine e_getR (r := 101) rfl rfl rfl rfl rfl (xnm_no rfl) ?_
      refine e_iload rfl rfl (xnm_no rfl) ?_
      obtain ⟨w3, hw4, h⟩ := xbd_some h
      refine e_cIS (hc := hw4) (rest := []) rfl rfl rfl rfl rfl rfl rfl rfl (xnm_no rfl) ?_
      refine e_if_eq (t := 80) rfl rfl (xnm_no rfl) (xnm_no rfl) h (fun h => ?_) (fun h => ?_)
      · refine e_iinc (y := 1) rfl rfl rfl (by decide) (xnm_no rfl) ?_
        refine e_goto (t := 7) rfl rfl rfl ?_
        exact xlfI h
      · refine e_aload_n rfl rfl rfl (xnm_no rfl) ?_
        refine e_getR (r := 102) rfl rfl rfl rfl rfl (xnm_no rfl) ?_
        refine e_iload rfl rfl (xnm_no rfl) ?_
        obtain ⟨g5, h⟩ := xgd_some h
        refine e_iald rfl g5 (xnm_no rfl) ?_
        refine e_aload_n rfl rfl rfl (xnm_no rfl) ?_
        refine e_getR (r := 102) rfl rfl rfl rfl rfl (xnm_no rfl) ?_
        refine e_iload_n rfl rfl (xnm_no rfl) ?_
        obtain ⟨g6, h⟩ := xgd_some h
        refine e_iald rfl g6 (xnm_no rfl) ?_
        refine e_icmp_eq (t := 71) rfl rfl rfl (xnm_no rfl) h (fun h => ?_) (fun h => ?_)
        · exact xlfI h
        · refine e_aload_n rfl rfl rfl (xnm_no rfl) ?_
          refine e_getR (r := 102) rfl rfl rfl rfl rfl (xnm_no rfl) ?_
          refine e_iload rfl rfl (xnm_no rfl) ?_
          obtain ⟨w7, hw8, h⟩ := xbd_some h
          refine e_cIS (hc := hw8) (rest := [.ref 102]) rfl rfl rfl rfl rfl rfl rfl rfl (xnm_no rfl) ?_
          obtain ⟨g9, h⟩ := xgd_some h
          refine e_iald rfl g9 (xnm_no rfl) ?_
          refine e_aload_n rfl rfl rfl (xnm_no rfl) ?_
          refine e_getR (r := 102) rfl rfl rfl rfl rfl (xnm_no rfl) ?_
          refine e_iload_n rfl rfl (xnm_no rfl) ?_
          refine e_iald rfl g6 (xnm_no rfl) ?_
          refine e_icmp_ne (t := 77) rfl rfl (xnm_no rfl) rfl h (fun h => ?_) (fun h => ?_)
          · refine e_iinc (y := 1) rfl rfl rfl (by decide) (xnm_no rfl) ?_
            refine e_iinc (y := 1) rfl rfl rfl (by decide) (xnm_no rfl) ?_
            refine e_goto (t := 7) rfl rfl rfl ?_
            exact xlfI h
          · exact xlfI h
set_option maxRecDepth 4000 in
theorem bX1_linesOf_97_71_i (v1 : Int32) (v2 : Int32) (v3 : Int32) (v4 : Int32) (m : xmm) {z : Int32 × xmm} (h : (bX1_linesOf_97_7 v1 (v2 ||| ((1 : Int32) <<< (v3 &&& 31))) (v3 + (1 : Int32)) (v4 + (1 : Int32)) m) = some z) : bX1_linesOf_97_71 v1 v2 v3 v4 m = some z := by
  refine xstI ?_
  show xT 14 2 71 [(0, .ref 97), (1, .int v1), (2, .int v2), (3, .int v3), (4, .int v4)] [] m (some (.int z.1), z.2)
  refine e_iload_n rfl rfl (xnm_no rfl) ?_
  refine e_iconst (x := 1) rfl (by decide) (xnm_no rfl) ?_
  refine e_iload_n rfl rfl (xnm_no rfl) ?_
  refine e_ishl rfl (xnm_no rfl) ?_
  refine e_ior rfl (xnm_no rfl) ?_
  refine e_istore_n rfl rfl (xnm_no rfl) ?_
  refine e_iinc (y := 1) rfl rfl rfl (by decide) (xnm_no rfl) ?_
  refine e_iinc (y := 1) rfl rfl rfl (by decide) (xnm_no rfl) ?_
  refine e_goto (t := 7) rfl rfl rfl ?_
  exact xlfI h
set_option maxRecDepth 4000 in
theorem fX1_walkLength_97_i (v1 : Int32) (m : xmm) {z : Int32 × xmm} (h : ((fX1_isOdd_97 v1 m).bind fun (w1 : Int32 × xmm) => if w1.1 = 0 then some ((0 : Int32), w1.2) else (fX11_against v1 w1.2).bind fun (w3 : Int32 × xmm) => (fX6_spread_98 101 w3.1 w3.2).bind fun (w5 : xmm) => xgd (xinb 64 v1) (some (((w5.1 99 (v1).toNatClampNeg) + (1 : Int32)), w5))) = some z) : fX1_walkLength_97 v1 m = some z := by
  refine xstI ?_
  show xT 15 3 0 [(0, .ref 97), (1, .int v1)] [] m (some (.int z.1), z.2)
  refine e_aload_n rfl rfl rfl (xnm_no rfl) ?_
  refine e_iload_n rfl rfl (xnm_no rfl) ?_
  obtain ⟨w1, hw2, h⟩ := xbd_some h
  refine e_cIV (hc := hw2) (rest := []) rfl rfl rfl rfl rfl rfl rfl rfl (xnm_no rfl) ?_
  refine e_if_ne (t := 10) rfl rfl (xnm_no rfl) (xnm_no rfl) h (fun h => ?_) (fun h => ?_)
  · refine e_aload_n rfl rfl rfl (xnm_no rfl) ?_
    refine e_getR (r := 98) rfl rfl rfl rfl rfl (xnm_no rfl) ?_
    refine e_aload_n rfl rfl rfl (xnm_no rfl) ?_
    refine e_getR (r := 101) rfl rfl rfl rfl rfl (xnm_no rfl) ?_
    refine e_iload_n rfl rfl (xnm_no rfl) ?_
    obtain ⟨w3, hw4, h⟩ := xbd_some h
    refine e_cIS (hc := hw4) (rest := [.ref 101, .ref 98]) rfl rfl rfl rfl rfl rfl rfl rfl (xnm_no rfl) ?_
    obtain ⟨w5, hw6, h⟩ := xbd_some h
    refine e_cVV (hc := hw6) (rest := []) rfl rfl rfl rfl rfl rfl rfl rfl (xnm_no rfl) ?_
    refine e_aload_n rfl rfl rfl (xnm_no rfl) ?_
    refine e_getR (r := 98) rfl rfl rfl rfl rfl (xnm_no rfl) ?_
    refine e_getR (r := 99) rfl rfl rfl rfl rfl (xnm_no rfl) ?_
    refine e_iload_n rfl rfl (xnm_no rfl) ?_
    obtain ⟨g7, h⟩ := xgd_some h
    refine e_iald rfl g7 (xnm_no rfl) ?_
    refine e_iconst (x := 1) rfl (by decide) (xnm_no rfl) ?_
    refine e_iadd rfl (xnm_no rfl) ?_
    cases h
    exact e_retI rfl rfl
  · refine e_iconst (x := 0) rfl (by decide) (xnm_no rfl) ?_
    cases h
    exact e_retI rfl rfl
set_option maxRecDepth 4000 in
theorem fX11_klass_0_i (v1 : Int32) (v2 : Int32) (v3 : Int32) (m : xmm) {z : Int32 × xmm} (h : ((fX3_hasLine 10 v1 v2 m).bind fun (w1 : Int32 × xmm) => if w1.1 = 0 then some ((-1 : Int32), w1.2) else (fX11_study_0 w1.2).bind fun (w3 : xmm) => (fX11_arrowFrom v1 v2 w3).bind fun (w5 : Int32 × xmm) => if v3 = 0 then (fX1_sizeOf_97 w5.1 w5.2).bind fun (w8 : Int32 × xmm) => some (w8.1, w8.2) else if v3 = 1 then (fX1_isOdd_97 w5.1 w5.2).bind fun (w11 : Int32 × xmm) => (fX11_bit w11.1 w11.2).bind fun (w13 : Int32 × xmm) => some (w13.1, w13.2) else if v3 = 2 then (fX1_linesOf_97 w5.1 w5.2).bind fun (w16 : Int32 × xmm) => some (w16.1, w16.2) else if v3 = 3 then (fX1_walkLength_97 w5.1 w5.2).bind fun (w19 : Int32 × xmm) => some (w19.1, w19.2) else some ((-1 : Int32), w5.2)) = some z) : fX11_klass_0 v1 v2 v3 m = some z := by
  refine xstI ?_
  show xT 129 6 0 [(0, .ref 0), (1, .int v1), (2, .int v2), (3, .int v3)] [] m (some (.int z.1), z.2)
  refine e_aload_n rfl rfl rfl (xnm_no rfl) ?_
  refine e_getR (r := 10) rfl rfl rfl rfl rfl (xnm_no rfl) ?_
  refine e_iload_n rfl rfl (xnm_no rfl) ?_
  refine e_iload_n rfl rfl (xnm_no rfl) ?_
  obtain ⟨w1, hw2, h⟩ := xbd_some h
  refine e_cIV (hc := hw2) (rest := []) rfl rfl rfl rfl rfl rfl rfl rfl (xnm_no rfl) ?_
  refine e_if_ne (t := 14) rfl rfl (xnm_no rfl) (xnm_no rfl) h (fun h => ?_) (fun h => ?_)
  · refine e_aload_n rfl rfl rfl (xnm_no rfl) ?_
    obtain ⟨w3, hw4, h⟩ := xbd_some h
    refine e_cVV (hc := hw4) (rest := []) rfl rfl rfl rfl rfl rfl rfl rfl (xnm_no rfl) ?_
    refine e_iload_n rfl rfl (xnm_no rfl) ?_
    refine e_iload_n rfl rfl (xnm_no rfl) ?_
    obtain ⟨w5, hw6, h⟩ := xbd_some h
    refine e_cIS (hc := hw6) (rest := []) rfl rfl rfl rfl rfl rfl rfl rfl (xnm_no rfl) ?_
    refine e_istore rfl rfl (xnm_no rfl) ?_
    refine e_iload_n rfl rfl (xnm_no rfl) ?_
    by_cases c7 : v3 = 0
    · rw [if_pos c7] at h
      refine e_sw (t := 56) (o := 30) rfl (by decide) (xsw_p c7) rfl (xnm_no rfl) ?_
      refine e_aload_n rfl rfl rfl (xnm_no rfl) ?_
      refine e_getR (r := 97) rfl rfl rfl rfl rfl (xnm_no rfl) ?_
      refine e_iload rfl rfl (xnm_no rfl) ?_
      obtain ⟨w8, hw9, h⟩ := xbd_some h
      refine e_cIV (hc := hw9) (rest := []) rfl rfl rfl rfl rfl rfl rfl rfl (xnm_no rfl) ?_
      cases h
      exact e_retI rfl rfl
    · rw [if_neg c7] at h
      by_cases c10 : v3 = 1
      · rw [if_pos c10] at h
        refine e_sw (t := 66) (o := 40) rfl (by decide) (xsw_n c7 (xsw_p c10)) rfl (xnm_no rfl) ?_
        refine e_aload_n rfl rfl rfl (xnm_no rfl) ?_
        refine e_getR (r := 97) rfl rfl rfl rfl rfl (xnm_no rfl) ?_
        refine e_iload rfl rfl (xnm_no rfl) ?_
        obtain ⟨w11, hw12, h⟩ := xbd_some h
        refine e_cIV (hc := hw12) (rest := []) rfl rfl rfl rfl rfl rfl rfl rfl (xnm_no rfl) ?_
        obtain ⟨w13, hw14, h⟩ := xbd_some h
        refine e_cIS (hc := hw14) (rest := []) rfl rfl rfl rfl rfl rfl rfl rfl (xnm_no rfl) ?_
        cases h
        exact e_retI rfl rfl
      · rw [if_neg c10] at h
        by_cases c15 : v3 = 2
        · rw [if_pos c15] at h
          refine e_sw (t := 79) (o := 53) rfl (by decide) (xsw_n c7 (xsw_n c10 (xsw_p c15))) rfl (xnm_no rfl) ?_
          refine e_aload_n rfl rfl rfl (xnm_no rfl) ?_
          refine e_getR (r := 97) rfl rfl rfl rfl rfl (xnm_no rfl) ?_
          refine e_iload rfl rfl (xnm_no rfl) ?_
          obtain ⟨w16, hw17, h⟩ := xbd_some h
          refine e_cIV (hc := hw17) (rest := []) rfl rfl rfl rfl rfl rfl rfl rfl (xnm_no rfl) ?_
          cases h
          exact e_retI rfl rfl
        · rw [if_neg c15] at h
          by_cases c18 : v3 = 3
          · rw [if_pos c18] at h
            refine e_sw (t := 89) (o := 63) rfl (by decide) (xsw_n c7 (xsw_n c10 (xsw_n c15 (xsw_p c18)))) rfl (xnm_no rfl) ?_
            refine e_aload_n rfl rfl rfl (xnm_no rfl) ?_
            refine e_getR (r := 97) rfl rfl rfl rfl rfl (xnm_no rfl) ?_
            refine e_iload rfl rfl (xnm_no rfl) ?_
            obtain ⟨w19, hw20, h⟩ := xbd_some h
            refine e_cIV (hc := hw20) (rest := []) rfl rfl rfl rfl rfl rfl rfl rfl (xnm_no rfl) ?_
            cases h
            exact e_retI rfl rfl
          · rw [if_neg c18] at h
            refine e_sw (t := 99) (o := 73) rfl (by decide) (xsw_n c7 (xsw_n c10 (xsw_n c15 (xsw_n c18 xsw_d)))) rfl (xnm_no rfl) ?_
            refine e_iconst (x := -1) rfl (by decide) (xnm_no rfl) ?_
            cases h
            exact e_retI rfl rfl
  · refine e_iconst (x := -1) rfl (by decide) (xnm_no rfl) ?_
    cases h
    exact e_retI rfl rfl
set_option maxRecDepth 4000 in
theorem fX12_lineAt_144_i (v1 : Int32) (v2 : Int32) (m : xmm) {z : Int32 × xmm} (h : (if v2 ≤ v1 then bX12_lineAt_144_10 v1 v2 v2 m else bX12_lineAt_144_10 v1 v2 v1 m) = some z) : fX12_lineAt_144 v1 v2 m = some z := by
  refine xstI ?_
  show xT 196 1 0 [(0, .ref 144), (1, .int v1), (2, .int v2)] [] m (some (.int z.1), z.2)
  refine e_iload_n rfl rfl (xnm_no rfl) ?_
  refine e_iload_n rfl rfl (xnm_no rfl) ?_
  refine e_icmp_ge (t := 9) rfl rfl (xnm_no rfl) (xnm_no rfl) h (fun h => ?_) (fun h => ?_)
  · refine e_iload_n rfl rfl rfl ?_
    exact xlfI h
  · refine e_iload_n rfl rfl (xnm_no rfl) ?_
    refine e_goto (t := 10) rfl rfl rfl ?_
    exact xlfI h
set_option maxRecDepth 4000 in
theorem bX12_lineAt_144_10_i (v1 : Int32) (v2 : Int32) (s0 : Int32) (m : xmm) {z : Int32 × xmm} (h : (if v2 ≤ v1 then bX12_lineAt_144_29 s0 v1 (0 : Int32) (0 : Int32) m else bX12_lineAt_144_29 s0 v2 (0 : Int32) (0 : Int32) m) = some z) : bX12_lineAt_144_10 v1 v2 s0 m = some z := by
  refine xstI ?_
  show xT 196 1 10 [(0, .ref 144), (1, .int v1), (2, .int v2)] [.int s0] m (some (.int z.1), z.2)
  refine e_istore_n rfl rfl (xnm_no rfl) ?_
  refine e_iload_n rfl rfl (xnm_no rfl) ?_
  refine e_iload_n rfl rfl (xnm_no rfl) ?_
  refine e_icmp_ge (t := 20) rfl rfl (xnm_no rfl) (xnm_no rfl) h (fun h => ?_) (fun h => ?_)
  · refine e_iload_n rfl rfl (xnm_no rfl) ?_
    refine e_istore rfl rfl (xnm_no rfl) ?_
    refine e_iconst (x := 0) rfl (by decide) (xnm_no rfl) ?_
    refine e_istore rfl rfl (xnm_no rfl) ?_
    refine e_iconst (x := 0) rfl (by decide) (xnm_no rfl) ?_
    refine e_istore rfl rfl rfl ?_
    exact xlfI h
  · refine e_iload_n rfl rfl (xnm_no rfl) ?_
    refine e_goto (t := 21) rfl rfl (xnm_no rfl) ?_
    refine e_istore rfl rfl (xnm_no rfl) ?_
    refine e_iconst (x := 0) rfl (by decide) (xnm_no rfl) ?_
    refine e_istore rfl rfl (xnm_no rfl) ?_
    refine e_iconst (x := 0) rfl (by decide) (xnm_no rfl) ?_
    refine e_istore rfl rfl rfl ?_
    exact xlfI h
set_option maxRecDepth 4000 in
theorem bX12_lineAt_144_29_i (v3 : Int32) (v4 : Int32) (v5 : Int32) (v6 : Int32) (m : xmm) {z : Int32 × xmm} (h : (if v3 < v6 then some (v5, m) else bX12_lineAt_144_41 v3 v4 v5 v6 (v6 + (1 : Int32)) m) = some z) : bX12_lineAt_144_29 v3 v4 v5 v6 m = some z := by
  refine xstI ?_
  show xT 196 1 29 [(0, .ref 144), (3, .int v3), (4, .int v4), (5, .int v5), (6, .int v6)] [] m (some (.int z.1), z.2)
  refine e_iload rfl rfl (xnm_no rfl) ?_
  refine e_iload_n rfl rfl (xnm_no rfl) ?_
  refine e_icmp_gt (t := 93) rfl rfl (xnm_no rfl) (xnm_no rfl) h (fun h => ?_) (fun h => ?_)
  · refine e_iload rfl rfl (xnm_no rfl) ?_
    cases h
    exact e_retI rfl rfl
  · refine e_iload rfl rfl (xnm_no rfl) ?_
    refine e_iconst (x := 1) rfl (by decide) (xnm_no rfl) ?_
    refine e_iadd rfl (xnm_no rfl) ?_
    refine e_istore rfl rfl rfl ?_
    exact xlfI h
set_option maxRecDepth 4000 in
theorem bX12_lineAt_144_41_i (v3 : Int32) (v4 : Int32) (v5 : Int32) (v6 : Int32) (v7 : Int32) (m : xmm) {z : Int32 × xmm} (h : (if (m.1 144 17) ≤ v7 then bX12_lineAt_144_29 v3 v4 v5 (v6 + (1 : Int32)) m else xgd (xinb 9 v6) ((fX12_has (m.1 152 (v6).toNatClampNeg) v7 m).bind fun (w2 : Int32 × xmm) => if w2.1 = 0 then bX12_lineAt_144_41 v3 v4 v5 v6 (v7 + (1 : Int32)) w2.2 else if v6 < v3 then bX12_lineAt_144_41 v3 v4 (v5 + (1 : Int32)) v6 (v7 + (1 : Int32)) w2.2 else if v4 ≤ v7 then bX12_lineAt_144_41 v3 v4 v5 v6 (v7 + (1 : Int32)) w2.2 else bX12_lineAt_144_41 v3 v4 (v5 + (1 : Int32)) v6 (v7 + (1 : Int32)) w2.2)) = some z) : bX12_lineAt_144_41 v3 v4 v5 v6 v7 m = some z := by
  refine xstI ?_
  show xT 196 1 41 [(0, .ref 144), (3, .int v3), (4, .int v4), (5, .int v5), (6, .int v6), (7, .int v7)] [] m (some (.int z.1), z.2)
  refine e_iload rfl rfl (xnm_no rfl) ?_
  refine e_aload_n rfl rfl rfl (xnm_no rfl) ?_
  refine e_getI rfl rfl rfl rfl (xnm_no rfl) ?_
  refine e_icmp_ge (t := 87) rfl rfl (xnm_no rfl) (xnm_no rfl) h (fun h => ?_) (fun h => ?_)
  · refine e_iinc (y := 1) rfl rfl rfl (by decide) (xnm_no rfl) ?_
    refine e_goto (t := 29) rfl rfl rfl ?_
    exact xlfI h
  · refine e_aload_n rfl rfl rfl (xnm_no rfl) ?_
    refine e_getR (r := 152) rfl rfl rfl rfl rfl (xnm_no rfl) ?_
    refine e_iload rfl rfl (xnm_no rfl) ?_
    obtain ⟨g1, h⟩ := xgd_some h
    refine e_iald rfl g1 (xnm_no rfl) ?_
    refine e_iload rfl rfl (xnm_no rfl) ?_
    obtain ⟨w2, hw3, h⟩ := xbd_some h
    refine e_cIS (hc := hw3) (rest := []) rfl rfl rfl rfl rfl rfl rfl rfl (xnm_no rfl) ?_
    refine e_if_eq (t := 81) rfl rfl (xnm_no rfl) (xnm_no rfl) h (fun h => ?_) (fun h => ?_)
    · refine e_iinc (y := 1) rfl rfl rfl (by decide) (xnm_no rfl) ?_
      refine e_goto (t := 41) rfl rfl rfl ?_
      exact xlfI h
    · refine e_iload rfl rfl (xnm_no rfl) ?_
      refine e_iload_n rfl rfl (xnm_no rfl) ?_
      refine e_icmp_lt (t := 78) rfl rfl (xnm_no rfl) (xnm_no rfl) h (fun h => ?_) (fun h => ?_)
      · refine e_iinc (y := 1) rfl rfl rfl (by decide) (xnm_no rfl) ?_
        refine e_iinc (y := 1) rfl rfl rfl (by decide) (xnm_no rfl) ?_
        refine e_goto (t := 41) rfl rfl rfl ?_
        exact xlfI h
      · refine e_iload rfl rfl (xnm_no rfl) ?_
        refine e_iload rfl rfl (xnm_no rfl) ?_
        refine e_icmp_ge (t := 81) rfl rfl (xnm_no rfl) (xnm_no rfl) h (fun h => ?_) (fun h => ?_)
        · refine e_iinc (y := 1) rfl rfl rfl (by decide) (xnm_no rfl) ?_
          refine e_goto (t := 41) rfl rfl rfl ?_
          exact xlfI h
        · refine e_iinc (y := 1) rfl rfl rfl (by decide) (xnm_no rfl) ?_
          refine e_iinc (y := 1) rfl rfl rfl (by decide) (xnm_no rfl) ?_
          refine e_goto (t := 41) rfl rfl rfl ?_
          exact xlfI h
set_option maxRecDepth 4000 in
theorem fX12_klass_144_i (v1 : Int32) (v2 : Int32) (v3 : Int32) (m : xmm) {z : Int32 × xmm} (h : ((fX12_isPost_144 v1 m).bind fun (w1 : Int32 × xmm) => if w1.1 = 0 then some ((-1 : Int32), w1.2) else (fX12_isPost_144 v2 w1.2).bind fun (w3 : Int32 × xmm) => if w3.1 = 0 then some ((-1 : Int32), w3.2) else (fX12_isArrow 152 v1 v2 w3.2).bind fun (w5 : Int32 × xmm) => if w5.1 = 0 then some ((-1 : Int32), w5.2) else (fX12_in v3 (0 : Int32) (3 : Int32) w5.2).bind fun (w7 : Int32 × xmm) => if w7.1 = 0 then some ((-1 : Int32), w7.2) else (fX12_laysClass_144 152 (((8 : Int32) * v1) + v2) w7.2).bind fun (w9 : xmm) => if v3 = 0 then some ((w9.1 144 31), w9) else if v3 = (1 : Int32) then (fX12_isOdd_144 w9).bind fun (w12 : Int32 × xmm) => if w12.1 = 0 then some ((0 : Int32), w12.2) else some ((1 : Int32), w12.2) else if v3 = (3 : Int32) then xgd (xinb 64 (((8 : Int32) * v2) + v1)) (some (((w9.1 161 ((((8 : Int32) * v2) + v1)).toNatClampNeg) + (1 : Int32)), w9)) else bX12_klass_144_105 (0 : Int32) (0 : Int32) w9) = some z) : fX12_klass_144 v1 v2 v3 m = some z := by
  refine xstI ?_
  show xT 207 4 0 [(0, .ref 144), (1, .int v1), (2, .int v2), (3, .int v3)] [] m (some (.int z.1), z.2)
  refine e_aload_n rfl rfl rfl (xnm_no rfl) ?_
  refine e_iload_n rfl rfl (xnm_no rfl) ?_
  obtain ⟨w1, hw2, h⟩ := xbd_some h
  refine e_cIV (hc := hw2) (rest := []) rfl rfl rfl rfl rfl rfl rfl rfl (xnm_no rfl) ?_
  refine e_if_eq (t := 37) rfl rfl (xnm_no rfl) (xnm_no rfl) h (fun h => ?_) (fun h => ?_)
  · refine e_iconst (x := -1) rfl (by decide) (xnm_no rfl) ?_
    cases h
    exact e_retI rfl rfl
  · refine e_aload_n rfl rfl rfl (xnm_no rfl) ?_
    refine e_iload_n rfl rfl (xnm_no rfl) ?_
    obtain ⟨w3, hw4, h⟩ := xbd_some h
    refine e_cIV (hc := hw4) (rest := []) rfl rfl rfl rfl rfl rfl rfl rfl (xnm_no rfl) ?_
    refine e_if_eq (t := 37) rfl rfl (xnm_no rfl) (xnm_no rfl) h (fun h => ?_) (fun h => ?_)
    · refine e_iconst (x := -1) rfl (by decide) (xnm_no rfl) ?_
      cases h
      exact e_retI rfl rfl
    · refine e_aload_n rfl rfl rfl (xnm_no rfl) ?_
      refine e_getR (r := 152) rfl rfl rfl rfl rfl (xnm_no rfl) ?_
      refine e_iload_n rfl rfl (xnm_no rfl) ?_
      refine e_iload_n rfl rfl (xnm_no rfl) ?_
      obtain ⟨w5, hw6, h⟩ := xbd_some h
      refine e_cIS (hc := hw6) (rest := []) rfl rfl rfl rfl rfl rfl rfl rfl (xnm_no rfl) ?_
      refine e_if_eq (t := 37) rfl rfl (xnm_no rfl) (xnm_no rfl) h (fun h => ?_) (fun h => ?_)
      · refine e_iconst (x := -1) rfl (by decide) (xnm_no rfl) ?_
        cases h
        exact e_retI rfl rfl
      · refine e_iload_n rfl rfl (xnm_no rfl) ?_
        refine e_iconst (x := 0) rfl (by decide) (xnm_no rfl) ?_
        refine e_iconst (x := 3) rfl (by decide) (xnm_no rfl) ?_
        obtain ⟨w7, hw8, h⟩ := xbd_some h
        refine e_cIS (hc := hw8) (rest := []) rfl rfl rfl rfl rfl rfl rfl rfl (xnm_no rfl) ?_
        refine e_if_ne (t := 39) rfl rfl (xnm_no rfl) (xnm_no rfl) h (fun h => ?_) (fun h => ?_)
        · refine e_aload_n rfl rfl rfl (xnm_no rfl) ?_
          refine e_aload_n rfl rfl rfl (xnm_no rfl) ?_
          refine e_getR (r := 152) rfl rfl rfl rfl rfl (xnm_no rfl) ?_
          refine e_bipush (x := 8) rfl (by decide) (xnm_no rfl) ?_
          refine e_iload_n rfl rfl (xnm_no rfl) ?_
          refine e_imul rfl (xnm_no rfl) ?_
          refine e_iload_n rfl rfl (xnm_no rfl) ?_
          refine e_iadd rfl (xnm_no rfl) ?_
          obtain ⟨w9, hw10, h⟩ := xbd_some h
          refine e_cVV (hc := hw10) (rest := []) rfl rfl rfl rfl rfl rfl rfl rfl (xnm_no rfl) ?_
          refine e_iload_n rfl rfl (xnm_no rfl) ?_
          refine e_if_ne (t := 62) rfl rfl (xnm_no rfl) (xnm_no rfl) h (fun h => ?_) (fun h => ?_)
          · refine e_iload_n rfl rfl (xnm_no rfl) ?_
            refine e_iconst (x := 1) rfl (by decide) (xnm_no rfl) ?_
            refine e_icmp_ne (t := 80) rfl rfl (xnm_no rfl) (xnm_no rfl) h (fun h => ?_) (fun h => ?_)
            · refine e_iload_n rfl rfl (xnm_no rfl) ?_
              refine e_iconst (x := 3) rfl (by decide) (xnm_no rfl) ?_
              refine e_icmp_ne (t := 99) rfl rfl (xnm_no rfl) (xnm_no rfl) h (fun h => ?_) (fun h => ?_)
              · refine e_iconst (x := 0) rfl (by decide) (xnm_no rfl) ?_
                refine e_istore rfl rfl (xnm_no rfl) ?_
                refine e_iconst (x := 0) rfl (by decide) (xnm_no rfl) ?_
                refine e_istore rfl rfl rfl ?_
                exact xlfI h
              · refine e_aload_n rfl rfl rfl (xnm_no rfl) ?_
                refine e_getR (r := 161) rfl rfl rfl rfl rfl (xnm_no rfl) ?_
                refine e_bipush (x := 8) rfl (by decide) (xnm_no rfl) ?_
                refine e_iload_n rfl rfl (xnm_no rfl) ?_
                refine e_imul rfl (xnm_no rfl) ?_
                refine e_iload_n rfl rfl (xnm_no rfl) ?_
                refine e_iadd rfl (xnm_no rfl) ?_
                obtain ⟨g11, h⟩ := xgd_some h
                refine e_iald rfl g11 (xnm_no rfl) ?_
                refine e_iconst (x := 1) rfl (by decide) (xnm_no rfl) ?_
                refine e_iadd rfl (xnm_no rfl) ?_
                cases h
                exact e_retI rfl rfl
            · refine e_aload_n rfl rfl rfl (xnm_no rfl) ?_
              obtain ⟨w12, hw13, h⟩ := xbd_some h
              refine e_cIV (hc := hw13) (rest := []) rfl rfl rfl rfl rfl rfl rfl rfl (xnm_no rfl) ?_
              refine e_if_eq (t := 78) rfl rfl (xnm_no rfl) (xnm_no rfl) h (fun h => ?_) (fun h => ?_)
              · refine e_iconst (x := 0) rfl (by decide) (xnm_no rfl) ?_
                cases h
                exact e_retI rfl rfl
              · refine e_iconst (x := 1) rfl (by decide) (xnm_no rfl) ?_
                refine e_goto (t := 79) rfl rfl (xnm_no rfl) ?_
                cases h
                exact e_retI rfl rfl
          · refine e_aload_n rfl rfl rfl (xnm_no rfl) ?_
            refine e_getI rfl rfl rfl rfl (xnm_no rfl) ?_
            cases h
            exact e_retI rfl rfl
        · refine e_iconst (x := -1) rfl (by decide) (xnm_no rfl) ?_
          cases h
          exact e_retI rfl rfl
set_option maxRecDepth 4000 in
theorem bX12_klass_144_105_i (v4 : Int32) (v5 : Int32) (m : xmm) {z : Int32 × xmm} (h : (if (m.1 144 31) ≤ v5 then some (v4, m) else xgd (xinb 64 v5) ((fX12_lineAt_144 ((m.1 160 (v5).toNatClampNeg) / (8 : Int32)) ((m.1 160 (v5).toNatClampNeg) - (m.1 160 (v5).toNatClampNeg) / (8 : Int32) * (8 : Int32)) m).bind fun (w2 : Int32 × xmm) => bX12_klass_144_105 (v4 ||| ((1 : Int32) <<< (w2.1 &&& 31))) (v5 + (1 : Int32)) w2.2)) = some z) : bX12_klass_144_105 v4 v5 m = some z := by
  refine xstI ?_
  show xT 207 4 105 [(0, .ref 144), (4, .int v4), (5, .int v5)] [] m (some (.int z.1), z.2)
  refine e_iload rfl rfl (xnm_no rfl) ?_
  refine e_aload_n rfl rfl rfl (xnm_no rfl) ?_
  refine e_getI rfl rfl rfl rfl (xnm_no rfl) ?_
  refine e_icmp_ge (t := 151) rfl rfl (xnm_no rfl) (xnm_no rfl) h (fun h => ?_) (fun h => ?_)
  · refine e_iload rfl rfl (xnm_no rfl) ?_
    cases h
    exact e_retI rfl rfl
  · refine e_iload rfl rfl (xnm_no rfl) ?_
    refine e_iconst (x := 1) rfl (by decide) (xnm_no rfl) ?_
    refine e_aload_n rfl rfl rfl (xnm_no rfl) ?_
    refine e_aload_n rfl rfl rfl (xnm_no rfl) ?_
    refine e_getR (r := 160) rfl rfl rfl rfl rfl (xnm_no rfl) ?_
    refine e_iload rfl rfl (xnm_no rfl) ?_
    obtain ⟨g1, h⟩ := xgd_some h
    refine e_iald rfl g1 (xnm_no rfl) ?_
    refine e_bipush (x := 8) rfl (by decide) (xnm_no rfl) ?_
    refine e_idiv rfl (by decide) (xnm_no rfl) ?_
    refine e_aload_n rfl rfl rfl (xnm_no rfl) ?_
    refine e_getR (r := 160) rfl rfl rfl rfl rfl (xnm_no rfl) ?_
    refine e_iload rfl rfl (xnm_no rfl) ?_
    refine e_iald rfl g1 (xnm_no rfl) ?_
    refine e_bipush (x := 8) rfl (by decide) (xnm_no rfl) ?_
    refine e_irem rfl (by decide) (xnm_no rfl) ?_
    obtain ⟨w2, hw3, h⟩ := xbd_some h
    refine e_cIV (hc := hw3) (rest := [.int _, .int _]) rfl rfl rfl rfl rfl rfl rfl rfl (xnm_no rfl) ?_
    refine e_ishl rfl (xnm_no rfl) ?_
    refine e_ior rfl (xnm_no rfl) ?_
    refine e_istore rfl rfl (xnm_no rfl) ?_
    refine e_iinc (y := 1) rfl rfl rfl (by decide) (xnm_no rfl) ?_
    refine e_goto (t := 105) rfl rfl rfl ?_
    exact xlfI h
set_option maxRecDepth 4000 in
theorem fX1_nextOfWalk_97_i (v1 : Int32) (m : xmm) {z : Int32 × xmm} (h : (bX1_nextOfWalk_97_2 v1 (0 : Int32) m) = some z) : fX1_nextOfWalk_97 v1 m = some z := by
  refine xstI ?_
  show xT 17 2 0 [(0, .ref 97), (1, .int v1)] [] m (some (.int z.1), z.2)
  refine e_iconst (x := 0) rfl (by decide) (xnm_no rfl) ?_
  refine e_istore_n rfl rfl rfl ?_
  exact xlfI h
set_option maxRecDepth 4000 in
theorem bX1_nextOfWalk_97_2_i (v1 : Int32) (v2 : Int32) (m : xmm) {z : Int32 × xmm} (h : (if (64 : Int32) ≤ v2 then some (v1, m) else (fX11_isArrow 101 v2 m).bind fun (w1 : Int32 × xmm) => if w1.1 = 0 then bX1_nextOfWalk_97_2 v1 (v2 + (1 : Int32)) w1.2 else xgd (xinb 64 v2) (xgd (xinb 64 v1) (if (w1.2.1 99 (v2).toNatClampNeg) = ((w1.2.1 99 (v1).toNatClampNeg) - (1 : Int32)) then (fX6_compels 101 v1 v2 w1.2).bind fun (w5 : Int32 × xmm) => if w5.1 = 0 then bX1_nextOfWalk_97_2 v1 (v2 + (1 : Int32)) w5.2 else some (v2, w5.2) else bX1_nextOfWalk_97_2 v1 (v2 + (1 : Int32)) w1.2))) = some z) : bX1_nextOfWalk_97_2 v1 v2 m = some z := by
  refine xstI ?_
  show xT 17 2 2 [(0, .ref 97), (1, .int v1), (2, .int v2)] [] m (some (.int z.1), z.2)
  refine e_iload_n rfl rfl (xnm_no rfl) ?_
  refine e_bipush (x := 64) rfl (by decide) (xnm_no rfl) ?_
  refine e_icmp_ge (t := 62) rfl rfl (xnm_no rfl) (xnm_no rfl) h (fun h => ?_) (fun h => ?_)
  · refine e_iload_n rfl rfl (xnm_no rfl) ?_
    cases h
    exact e_retI rfl rfl
  · refine e_aload_n rfl rfl rfl (xnm_no rfl) ?_
    refine e_getR (r := 101) rfl rfl rfl rfl rfl (xnm_no rfl) ?_
    refine e_iload_n rfl rfl (xnm_no rfl) ?_
    obtain ⟨w1, hw2, h⟩ := xbd_some h
    refine e_cIS (hc := hw2) (rest := []) rfl rfl rfl rfl rfl rfl rfl rfl (xnm_no rfl) ?_
    refine e_if_eq (t := 56) rfl rfl (xnm_no rfl) (xnm_no rfl) h (fun h => ?_) (fun h => ?_)
    · refine e_iinc (y := 1) rfl rfl rfl (by decide) (xnm_no rfl) ?_
      refine e_goto (t := 2) rfl rfl rfl ?_
      exact xlfI h
    · refine e_aload_n rfl rfl rfl (xnm_no rfl) ?_
      refine e_getR (r := 98) rfl rfl rfl rfl rfl (xnm_no rfl) ?_
      refine e_getR (r := 99) rfl rfl rfl rfl rfl (xnm_no rfl) ?_
      refine e_iload_n rfl rfl (xnm_no rfl) ?_
      obtain ⟨g3, h⟩ := xgd_some h
      refine e_iald rfl g3 (xnm_no rfl) ?_
      refine e_aload_n rfl rfl rfl (xnm_no rfl) ?_
      refine e_getR (r := 98) rfl rfl rfl rfl rfl (xnm_no rfl) ?_
      refine e_getR (r := 99) rfl rfl rfl rfl rfl (xnm_no rfl) ?_
      refine e_iload_n rfl rfl (xnm_no rfl) ?_
      obtain ⟨g4, h⟩ := xgd_some h
      refine e_iald rfl g4 (xnm_no rfl) ?_
      refine e_iconst (x := 1) rfl (by decide) (xnm_no rfl) ?_
      refine e_isub rfl (xnm_no rfl) ?_
      refine e_icmp_ne (t := 56) rfl rfl (xnm_no rfl) (xnm_no rfl) h (fun h => ?_) (fun h => ?_)
      · refine e_iinc (y := 1) rfl rfl rfl (by decide) (xnm_no rfl) ?_
        refine e_goto (t := 2) rfl rfl rfl ?_
        exact xlfI h
      · refine e_aload_n rfl rfl rfl (xnm_no rfl) ?_
        refine e_getR (r := 101) rfl rfl rfl rfl rfl (xnm_no rfl) ?_
        refine e_iload_n rfl rfl (xnm_no rfl) ?_
        refine e_iload_n rfl rfl (xnm_no rfl) ?_
        obtain ⟨w5, hw6, h⟩ := xbd_some h
        refine e_cIS (hc := hw6) (rest := []) rfl rfl rfl rfl rfl rfl rfl rfl (xnm_no rfl) ?_
        refine e_if_eq (t := 56) rfl rfl (xnm_no rfl) (xnm_no rfl) h (fun h => ?_) (fun h => ?_)
        · refine e_iinc (y := 1) rfl rfl rfl (by decide) (xnm_no rfl) ?_
          refine e_goto (t := 2) rfl rfl rfl ?_
          exact xlfI h
        · refine e_iload_n rfl rfl (xnm_no rfl) ?_
          cases h
          exact e_retI rfl rfl
set_option maxRecDepth 4000 in
theorem fX1_walkAt_97_i (v1 : Int32) (v2 : Int32) (m : xmm) {z : Int32 × xmm} (h : (if v2 < 0 then some ((-1 : Int32), m) else (fX1_walkLength_97 v1 m).bind fun (w1 : Int32 × xmm) => if v2 < w1.1 then bX1_walkAt_97_20 v2 v1 (0 : Int32) w1.2 else some ((-1 : Int32), w1.2)) = some z) : fX1_walkAt_97 v1 v2 m = some z := by
  refine xstI ?_
  show xT 16 4 0 [(0, .ref 97), (1, .int v1), (2, .int v2)] [] m (some (.int z.1), z.2)
  refine e_iload_n rfl rfl (xnm_no rfl) ?_
  refine e_if_lt (t := 13) rfl rfl (xnm_no rfl) (xnm_no rfl) h (fun h => ?_) (fun h => ?_)
  · refine e_iconst (x := -1) rfl (by decide) (xnm_no rfl) ?_
    cases h
    exact e_retI rfl rfl
  · refine e_iload_n rfl rfl (xnm_no rfl) ?_
    refine e_aload_n rfl rfl rfl (xnm_no rfl) ?_
    refine e_iload_n rfl rfl (xnm_no rfl) ?_
    obtain ⟨w1, hw2, h⟩ := xbd_some h
    refine e_cIV (hc := hw2) (rest := [.int _]) rfl rfl rfl rfl rfl rfl rfl rfl (xnm_no rfl) ?_
    refine e_icmp_lt (t := 15) rfl rfl (xnm_no rfl) (xnm_no rfl) h (fun h => ?_) (fun h => ?_)
    · refine e_iload_n rfl rfl (xnm_no rfl) ?_
      refine e_istore_n rfl rfl (xnm_no rfl) ?_
      refine e_iconst (x := 0) rfl (by decide) (xnm_no rfl) ?_
      refine e_istore rfl rfl rfl ?_
      exact xlfI h
    · refine e_iconst (x := -1) rfl (by decide) (xnm_no rfl) ?_
      cases h
      exact e_retI rfl rfl
set_option maxRecDepth 4000 in
theorem bX1_walkAt_97_20_i (v2 : Int32) (v3 : Int32) (v4 : Int32) (m : xmm) {z : Int32 × xmm} (h : (if v2 ≤ v4 then some (v3, m) else if (64 : Int32) ≤ v4 then some (v3, m) else (fX1_nextOfWalk_97 v3 m).bind fun (w1 : Int32 × xmm) => bX1_walkAt_97_20 v2 w1.1 (v4 + (1 : Int32)) w1.2) = some z) : bX1_walkAt_97_20 v2 v3 v4 m = some z := by
  refine xstI ?_
  show xT 16 4 20 [(0, .ref 97), (2, .int v2), (3, .int v3), (4, .int v4)] [] m (some (.int z.1), z.2)
  refine e_iload rfl rfl (xnm_no rfl) ?_
  refine e_iload_n rfl rfl (xnm_no rfl) ?_
  refine e_icmp_ge (t := 45) rfl rfl (xnm_no rfl) (xnm_no rfl) h (fun h => ?_) (fun h => ?_)
  · refine e_iload_n rfl rfl (xnm_no rfl) ?_
    cases h
    exact e_retI rfl rfl
  · refine e_iload rfl rfl (xnm_no rfl) ?_
    refine e_bipush (x := 64) rfl (by decide) (xnm_no rfl) ?_
    refine e_icmp_ge (t := 45) rfl rfl (xnm_no rfl) (xnm_no rfl) h (fun h => ?_) (fun h => ?_)
    · refine e_iload_n rfl rfl (xnm_no rfl) ?_
      cases h
      exact e_retI rfl rfl
    · refine e_aload_n rfl rfl rfl (xnm_no rfl) ?_
      refine e_iload_n rfl rfl (xnm_no rfl) ?_
      obtain ⟨w1, hw2, h⟩ := xbd_some h
      refine e_cIV (hc := hw2) (rest := []) rfl rfl rfl rfl rfl rfl rfl rfl (xnm_no rfl) ?_
      refine e_istore_n rfl rfl (xnm_no rfl) ?_
      refine e_iinc (y := 1) rfl rfl rfl (by decide) (xnm_no rfl) ?_
      refine e_goto (t := 20) rfl rfl rfl ?_
      exact xlfI h
set_option maxRecDepth 4000 in
theorem fX11_walk_0_i (v1 : Int32) (v2 : Int32) (v3 : Int32) (m : xmm) {z : Int32 × xmm} (h : ((fX3_hasLine 10 v1 v2 m).bind fun (w1 : Int32 × xmm) => if w1.1 = 0 then some ((-1 : Int32), w1.2) else (fX11_study_0 w1.2).bind fun (w3 : xmm) => (fX11_arrowFrom v1 v2 w3).bind fun (w5 : Int32 × xmm) => (fX1_walkAt_97 w5.1 v3 w5.2).bind fun (w7 : Int32 × xmm) => some (w7.1, w7.2)) = some z) : fX11_walk_0 v1 v2 v3 m = some z := by
  refine xstI ?_
  show xT 130 6 0 [(0, .ref 0), (1, .int v1), (2, .int v2), (3, .int v3)] [] m (some (.int z.1), z.2)
  refine e_aload_n rfl rfl rfl (xnm_no rfl) ?_
  refine e_getR (r := 10) rfl rfl rfl rfl rfl (xnm_no rfl) ?_
  refine e_iload_n rfl rfl (xnm_no rfl) ?_
  refine e_iload_n rfl rfl (xnm_no rfl) ?_
  obtain ⟨w1, hw2, h⟩ := xbd_some h
  refine e_cIV (hc := hw2) (rest := []) rfl rfl rfl rfl rfl rfl rfl rfl (xnm_no rfl) ?_
  refine e_if_ne (t := 14) rfl rfl (xnm_no rfl) (xnm_no rfl) h (fun h => ?_) (fun h => ?_)
  · refine e_aload_n rfl rfl rfl (xnm_no rfl) ?_
    obtain ⟨w3, hw4, h⟩ := xbd_some h
    refine e_cVV (hc := hw4) (rest := []) rfl rfl rfl rfl rfl rfl rfl rfl (xnm_no rfl) ?_
    refine e_aload_n rfl rfl rfl (xnm_no rfl) ?_
    refine e_getR (r := 97) rfl rfl rfl rfl rfl (xnm_no rfl) ?_
    refine e_iload_n rfl rfl (xnm_no rfl) ?_
    refine e_iload_n rfl rfl (xnm_no rfl) ?_
    obtain ⟨w5, hw6, h⟩ := xbd_some h
    refine e_cIS (hc := hw6) (rest := [.ref 97]) rfl rfl rfl rfl rfl rfl rfl rfl (xnm_no rfl) ?_
    refine e_iload_n rfl rfl (xnm_no rfl) ?_
    obtain ⟨w7, hw8, h⟩ := xbd_some h
    refine e_cIV (hc := hw8) (rest := []) rfl rfl rfl rfl rfl rfl rfl rfl (xnm_no rfl) ?_
    cases h
    exact e_retI rfl rfl
  · refine e_iconst (x := -1) rfl (by decide) (xnm_no rfl) ?_
    cases h
    exact e_retI rfl rfl
set_option maxRecDepth 4000 in
theorem fX12_walk_144_i (v1 : Int32) (v2 : Int32) (v3 : Int32) (m : xmm) {z : Int32 × xmm} (h : ((fX12_isPost_144 v1 m).bind fun (w1 : Int32 × xmm) => if w1.1 = 0 then some ((-1 : Int32), w1.2) else (fX12_isPost_144 v2 w1.2).bind fun (w3 : Int32 × xmm) => if w3.1 = 0 then some ((-1 : Int32), w3.2) else (fX12_isArrow 152 v1 v2 w3.2).bind fun (w5 : Int32 × xmm) => if w5.1 = 0 then some ((-1 : Int32), w5.2) else (fX12_laysClass_144 152 (((8 : Int32) * v2) + v1) w5.2).bind fun (w7 : xmm) => xgd (xinb 64 (((8 : Int32) * v1) + v2)) (if (w7.1 161 ((((8 : Int32) * v1) + v2)).toNatClampNeg) < 0 then some ((-1 : Int32), w7) else (fX12_in v3 (0 : Int32) (w7.1 161 ((((8 : Int32) * v1) + v2)).toNatClampNeg) w7).bind fun (w10 : Int32 × xmm) => if w10.1 = 0 then some ((-1 : Int32), w10.2) else bX12_walk_144_82 v3 (((8 : Int32) * v1) + v2) (0 : Int32) w10.2)) = some z) : fX12_walk_144 v1 v2 v3 m = some z := by
  refine xstI ?_
  show xT 208 4 0 [(0, .ref 144), (1, .int v1), (2, .int v2), (3, .int v3)] [] m (some (.int z.1), z.2)
  refine e_aload_n rfl rfl rfl (xnm_no rfl) ?_
  refine e_iload_n rfl rfl (xnm_no rfl) ?_
  obtain ⟨w1, hw2, h⟩ := xbd_some h
  refine e_cIV (hc := hw2) (rest := []) rfl rfl rfl rfl rfl rfl rfl rfl (xnm_no rfl) ?_
  refine e_if_eq (t := 28) rfl rfl (xnm_no rfl) (xnm_no rfl) h (fun h => ?_) (fun h => ?_)
  · refine e_iconst (x := -1) rfl (by decide) (xnm_no rfl) ?_
    cases h
    exact e_retI rfl rfl
  · refine e_aload_n rfl rfl rfl (xnm_no rfl) ?_
    refine e_iload_n rfl rfl (xnm_no rfl) ?_
    obtain ⟨w3, hw4, h⟩ := xbd_some h
    refine e_cIV (hc := hw4) (rest := []) rfl rfl rfl rfl rfl rfl rfl rfl (xnm_no rfl) ?_
    refine e_if_eq (t := 28) rfl rfl (xnm_no rfl) (xnm_no rfl) h (fun h => ?_) (fun h => ?_)
    · refine e_iconst (x := -1) rfl (by decide) (xnm_no rfl) ?_
      cases h
      exact e_retI rfl rfl
    · refine e_aload_n rfl rfl rfl (xnm_no rfl) ?_
      refine e_getR (r := 152) rfl rfl rfl rfl rfl (xnm_no rfl) ?_
      refine e_iload_n rfl rfl (xnm_no rfl) ?_
      refine e_iload_n rfl rfl (xnm_no rfl) ?_
      obtain ⟨w5, hw6, h⟩ := xbd_some h
      refine e_cIS (hc := hw6) (rest := []) rfl rfl rfl rfl rfl rfl rfl rfl (xnm_no rfl) ?_
      refine e_if_ne (t := 30) rfl rfl (xnm_no rfl) (xnm_no rfl) h (fun h => ?_) (fun h => ?_)
      · refine e_aload_n rfl rfl rfl (xnm_no rfl) ?_
        refine e_aload_n rfl rfl rfl (xnm_no rfl) ?_
        refine e_getR (r := 152) rfl rfl rfl rfl rfl (xnm_no rfl) ?_
        refine e_bipush (x := 8) rfl (by decide) (xnm_no rfl) ?_
        refine e_iload_n rfl rfl (xnm_no rfl) ?_
        refine e_imul rfl (xnm_no rfl) ?_
        refine e_iload_n rfl rfl (xnm_no rfl) ?_
        refine e_iadd rfl (xnm_no rfl) ?_
        obtain ⟨w7, hw8, h⟩ := xbd_some h
        refine e_cVV (hc := hw8) (rest := []) rfl rfl rfl rfl rfl rfl rfl rfl (xnm_no rfl) ?_
        refine e_bipush (x := 8) rfl (by decide) (xnm_no rfl) ?_
        refine e_iload_n rfl rfl (xnm_no rfl) ?_
        refine e_imul rfl (xnm_no rfl) ?_
        refine e_iload_n rfl rfl (xnm_no rfl) ?_
        refine e_iadd rfl (xnm_no rfl) ?_
        refine e_istore rfl rfl (xnm_no rfl) ?_
        refine e_aload_n rfl rfl rfl (xnm_no rfl) ?_
        refine e_getR (r := 161) rfl rfl rfl rfl rfl (xnm_no rfl) ?_
        refine e_iload rfl rfl (xnm_no rfl) ?_
        obtain ⟨g9, h⟩ := xgd_some h
        refine e_iald rfl g9 (xnm_no rfl) ?_
        refine e_if_lt (t := 77) rfl rfl (xnm_no rfl) (xnm_no rfl) h (fun h => ?_) (fun h => ?_)
        · refine e_iconst (x := -1) rfl (by decide) (xnm_no rfl) ?_
          cases h
          exact e_retI rfl rfl
        · refine e_iload_n rfl rfl (xnm_no rfl) ?_
          refine e_iconst (x := 0) rfl (by decide) (xnm_no rfl) ?_
          refine e_aload_n rfl rfl rfl (xnm_no rfl) ?_
          refine e_getR (r := 161) rfl rfl rfl rfl rfl (xnm_no rfl) ?_
          refine e_iload rfl rfl (xnm_no rfl) ?_
          refine e_iald rfl g9 (xnm_no rfl) ?_
          obtain ⟨w10, hw11, h⟩ := xbd_some h
          refine e_cIS (hc := hw11) (rest := []) rfl rfl rfl rfl rfl rfl rfl rfl (xnm_no rfl) ?_
          refine e_if_ne (t := 79) rfl rfl (xnm_no rfl) (xnm_no rfl) h (fun h => ?_) (fun h => ?_)
          · refine e_iconst (x := 0) rfl (by decide) (xnm_no rfl) ?_
            refine e_istore rfl rfl rfl ?_
            exact xlfI h
          · refine e_iconst (x := -1) rfl (by decide) (xnm_no rfl) ?_
            cases h
            exact e_retI rfl rfl
      · refine e_iconst (x := -1) rfl (by decide) (xnm_no rfl) ?_
        cases h
        exact e_retI rfl rfl
set_option maxRecDepth 4000 in
theorem bX12_walk_144_82_i (v3 : Int32) (v4 : Int32) (v5 : Int32) (m : xmm) {z : Int32 × xmm} (h : (if v3 ≤ v5 then some (v4, m) else bX12_walk_144_91 v3 v4 v5 (0 : Int32) m) = some z) : bX12_walk_144_82 v3 v4 v5 m = some z := by
  refine xstI ?_
  show xT 208 4 82 [(0, .ref 144), (3, .int v3), (4, .int v4), (5, .int v5)] [] m (some (.int z.1), z.2)
  refine e_iload rfl rfl (xnm_no rfl) ?_
  refine e_iload_n rfl rfl (xnm_no rfl) ?_
  refine e_icmp_ge (t := 140) rfl rfl (xnm_no rfl) (xnm_no rfl) h (fun h => ?_) (fun h => ?_)
  · refine e_iload rfl rfl (xnm_no rfl) ?_
    cases h
    exact e_retI rfl rfl
  · refine e_iconst (x := 0) rfl (by decide) (xnm_no rfl) ?_
    refine e_istore rfl rfl rfl ?_
    exact xlfI h
set_option maxRecDepth 4000 in
theorem bX12_walk_144_91_i (v3 : Int32) (v4 : Int32) (v5 : Int32) (v6 : Int32) (m : xmm) {z : Int32 × xmm} (h : (xgd (xinb 64 v6) (xgd (xinb 64 v4) (if (m.1 161 (v6).toNatClampNeg) = ((m.1 161 (v4).toNatClampNeg) - (1 : Int32)) then (fX12_forcesIt 152 v4 v6 m).bind fun (w3 : Int32 × xmm) => if w3.1 = 0 then bX12_walk_144_91 v3 v4 v5 (v6 + (1 : Int32)) w3.2 else bX12_walk_144_82 v3 v6 (v5 + (1 : Int32)) w3.2 else bX12_walk_144_91 v3 v4 v5 (v6 + (1 : Int32)) m))) = some z) : bX12_walk_144_91 v3 v4 v5 v6 m = some z := by
  refine xstI ?_
  show xT 208 4 91 [(0, .ref 144), (3, .int v3), (4, .int v4), (5, .int v5), (6, .int v6)] [] m (some (.int z.1), z.2)
  refine e_aload_n rfl rfl rfl (xnm_no rfl) ?_
  refine e_getR (r := 161) rfl rfl rfl rfl rfl (xnm_no rfl) ?_
  refine e_iload rfl rfl (xnm_no rfl) ?_
  obtain ⟨g1, h⟩ := xgd_some h
  refine e_iald rfl g1 (xnm_no rfl) ?_
  refine e_aload_n rfl rfl rfl (xnm_no rfl) ?_
  refine e_getR (r := 161) rfl rfl rfl rfl rfl (xnm_no rfl) ?_
  refine e_iload rfl rfl (xnm_no rfl) ?_
  obtain ⟨g2, h⟩ := xgd_some h
  refine e_iald rfl g2 (xnm_no rfl) ?_
  refine e_iconst (x := 1) rfl (by decide) (xnm_no rfl) ?_
  refine e_isub rfl (xnm_no rfl) ?_
  refine e_icmp_ne (t := 124) rfl rfl (xnm_no rfl) (xnm_no rfl) h (fun h => ?_) (fun h => ?_)
  · refine e_iinc (y := 1) rfl rfl rfl (by decide) (xnm_no rfl) ?_
    refine e_goto (t := 91) rfl rfl rfl ?_
    exact xlfI h
  · refine e_aload_n rfl rfl rfl (xnm_no rfl) ?_
    refine e_getR (r := 152) rfl rfl rfl rfl rfl (xnm_no rfl) ?_
    refine e_iload rfl rfl (xnm_no rfl) ?_
    refine e_iload rfl rfl (xnm_no rfl) ?_
    obtain ⟨w3, hw4, h⟩ := xbd_some h
    refine e_cIS (hc := hw4) (rest := []) rfl rfl rfl rfl rfl rfl rfl rfl (xnm_no rfl) ?_
    refine e_if_ne (t := 130) rfl rfl (xnm_no rfl) (xnm_no rfl) h (fun h => ?_) (fun h => ?_)
    · refine e_iload rfl rfl (xnm_no rfl) ?_
      refine e_istore rfl rfl (xnm_no rfl) ?_
      refine e_iinc (y := 1) rfl rfl rfl (by decide) (xnm_no rfl) ?_
      refine e_goto (t := 82) rfl rfl rfl ?_
      exact xlfI h
    · refine e_iinc (y := 1) rfl rfl rfl (by decide) (xnm_no rfl) ?_
      refine e_goto (t := 91) rfl rfl rfl ?_
      exact xlfI h
set_option maxRecDepth 4000 in
theorem fX1_countAll_97_i (m : xmm) {z : Int32 × xmm} (h : (some ((m.1 97 3), m)) = some z) : fX1_countAll_97 m = some z := by
  refine xstI ?_
  show xT 10 0 0 [(0, .ref 97)] [] m (some (.int z.1), z.2)
  refine e_aload_n rfl rfl rfl (xnm_no rfl) ?_
  refine e_getI rfl rfl rfl rfl (xnm_no rfl) ?_
  cases h
  exact e_retI rfl rfl
set_option maxRecDepth 4000 in
theorem fX1_countOdd_97_i (m : xmm) {z : Int32 × xmm} (h : (some ((m.1 97 4), m)) = some z) : fX1_countOdd_97 m = some z := by
  refine xstI ?_
  show xT 11 0 0 [(0, .ref 97)] [] m (some (.int z.1), z.2)
  refine e_aload_n rfl rfl rfl (xnm_no rfl) ?_
  refine e_getI rfl rfl rfl rfl (xnm_no rfl) ?_
  cases h
  exact e_retI rfl rfl
set_option maxRecDepth 4000 in
theorem fX9_isAlike_i (v0 : Nat) (v1 : Int32) (v2 : Int32) (m : xmm) {z : Int32 × xmm} (h : (if v1 = 0 then some ((0 : Int32), m) else bX9_isAlike_8 v0 v1 v2 (0 : Int32) m) = some z) : fX9_isAlike v0 v1 v2 m = some z := by
  refine xstI ?_
  show xT 99 1 0 [(0, .ref v0), (1, .int v1), (2, .int v2)] [] m (some (.int z.1), z.2)
  refine e_iload_n rfl rfl (xnm_no rfl) ?_
  refine e_if_ne (t := 6) rfl rfl (xnm_no rfl) (xnm_no rfl) h (fun h => ?_) (fun h => ?_)
  · refine e_iconst (x := 0) rfl (by decide) (xnm_no rfl) ?_
    refine e_istore_n rfl rfl rfl ?_
    exact xlfI h
  · refine e_iconst (x := 0) rfl (by decide) (xnm_no rfl) ?_
    cases h
    exact e_retI rfl (by decide)
set_option maxRecDepth 4000 in
theorem bX9_isAlike_8_i (v0 : Nat) (v1 : Int32) (v2 : Int32) (v3 : Int32) (m : xmm) {z : Int32 × xmm} (h : (if (8 : Int32) ≤ v3 then some ((1 : Int32), m) else xgd (!(Nat.beq v0 1999)) (xgd (xia 1 v0 v3) ((fX11_contains (v2 &&& (v1 ^^^ (-1 : Int32))) v3 m).bind fun (w3 : Int32 × xmm) => if w3.1 = 0 then bX9_isAlike_8 v0 v1 v2 (v3 + (1 : Int32)) w3.2 else if ((m.1 v0 (v3).toNatClampNeg) &&& v1) = 0 then bX9_isAlike_8 v0 v1 v2 (v3 + (1 : Int32)) w3.2 else if ((m.1 v0 (v3).toNatClampNeg) &&& v1) = v1 then bX9_isAlike_8 v0 v1 v2 (v3 + (1 : Int32)) w3.2 else some ((0 : Int32), w3.2)))) = some z) : bX9_isAlike_8 v0 v1 v2 v3 m = some z := by
  refine xstI ?_
  show xT 99 1 8 [(0, .ref v0), (1, .int v1), (2, .int v2), (3, .int v3)] [] m (some (.int z.1), z.2)
  refine e_iload_n rfl rfl (xnm_no rfl) ?_
  refine e_bipush (x := 8) rfl (by decide) (xnm_no rfl) ?_
  refine e_icmp_ge (t := 52) rfl rfl (xnm_no rfl) (xnm_no rfl) h (fun h => ?_) (fun h => ?_)
  · refine e_iconst (x := 1) rfl (by decide) (xnm_no rfl) ?_
    cases h
    exact e_retI rfl (by decide)
  · obtain ⟨g1, h⟩ := xgd_some h
    refine e_aload_n rfl rfl (xnb g1) (xnm_no rfl) ?_
    refine e_iload_n rfl rfl (xnm_no rfl) ?_
    obtain ⟨g2, h⟩ := xgd_some h
    refine e_iald rfl g2 (xnm_no rfl) ?_
    refine e_iload_n rfl rfl (xnm_no rfl) ?_
    refine e_iand rfl (xnm_no rfl) ?_
    refine e_istore rfl rfl (xnm_no rfl) ?_
    refine e_iload_n rfl rfl (xnm_no rfl) ?_
    refine e_iload_n rfl rfl (xnm_no rfl) ?_
    refine e_iconst (x := -1) rfl (by decide) (xnm_no rfl) ?_
    refine e_ixor rfl (xnm_no rfl) ?_
    refine e_iand rfl (xnm_no rfl) ?_
    refine e_iload_n rfl rfl (xnm_no rfl) ?_
    obtain ⟨w3, hw4, h⟩ := xbd_some h
    refine e_cIS (hc := hw4) (rest := []) rfl rfl rfl rfl rfl rfl rfl rfl (xnm_no rfl) ?_
    refine e_if_eq (t := 46) rfl rfl (xnm_no rfl) (xnm_no rfl) h (fun h => ?_) (fun h => ?_)
    · refine e_iinc (y := 1) rfl rfl rfl (by decide) (xnm_no rfl) ?_
      refine e_goto (t := 8) rfl rfl rfl ?_
      exact xlfI h
    · refine e_iload rfl rfl (xnm_no rfl) ?_
      refine e_if_eq (t := 46) rfl rfl (xnm_no rfl) (xnm_no rfl) h (fun h => ?_) (fun h => ?_)
      · refine e_iinc (y := 1) rfl rfl rfl (by decide) (xnm_no rfl) ?_
        refine e_goto (t := 8) rfl rfl rfl ?_
        exact xlfI h
      · refine e_iload rfl rfl (xnm_no rfl) ?_
        refine e_iload_n rfl rfl (xnm_no rfl) ?_
        refine e_icmp_eq (t := 46) rfl rfl (xnm_no rfl) (xnm_no rfl) h (fun h => ?_) (fun h => ?_)
        · refine e_iinc (y := 1) rfl rfl rfl (by decide) (xnm_no rfl) ?_
          refine e_goto (t := 8) rfl rfl rfl ?_
          exact xlfI h
        · refine e_iconst (x := 0) rfl (by decide) (xnm_no rfl) ?_
          cases h
          exact e_retI rfl (by decide)
set_option maxRecDepth 4000 in
theorem fX2_isOverlapped_130_i (v1 : Int32) (v2 : Int32) (m : xmm) {z : Int32 × xmm} (h : (bX2_isOverlapped_130_2 v1 v2 (1 : Int32) m) = some z) : fX2_isOverlapped_130 v1 v2 m = some z := by
  refine xstI ?_
  show xT 20 0 0 [(0, .ref 130), (1, .int v1), (2, .int v2)] [] m (some (.int z.1), z.2)
  refine e_iconst (x := 1) rfl (by decide) (xnm_no rfl) ?_
  refine e_istore_n rfl rfl rfl ?_
  exact xlfI h
set_option maxRecDepth 4000 in
theorem bX2_isOverlapped_130_2_i (v1 : Int32) (v2 : Int32) (v3 : Int32) (m : xmm) {z : Int32 × xmm} (h : (if v2 < v3 then some ((0 : Int32), m) else if (256 : Int32) ≤ v3 then some ((0 : Int32), m) else xgd (xinb 256 v3) (if (m.1 131 (v3).toNatClampNeg) = 0 then bX2_isOverlapped_130_2 v1 v2 (v3 + (1 : Int32)) m else if (v1 &&& v3) = 0 then bX2_isOverlapped_130_2 v1 v2 (v3 + (1 : Int32)) m else if (v1 &&& (v3 ^^^ (-1 : Int32))) = 0 then bX2_isOverlapped_130_2 v1 v2 (v3 + (1 : Int32)) m else if (v3 &&& (v1 ^^^ (-1 : Int32))) = 0 then bX2_isOverlapped_130_2 v1 v2 (v3 + (1 : Int32)) m else some ((1 : Int32), m))) = some z) : bX2_isOverlapped_130_2 v1 v2 v3 m = some z := by
  refine xstI ?_
  show xT 20 0 2 [(0, .ref 130), (1, .int v1), (2, .int v2), (3, .int v3)] [] m (some (.int z.1), z.2)
  refine e_iload_n rfl rfl (xnm_no rfl) ?_
  refine e_iload_n rfl rfl (xnm_no rfl) ?_
  refine e_icmp_gt (t := 53) rfl rfl (xnm_no rfl) (xnm_no rfl) h (fun h => ?_) (fun h => ?_)
  · refine e_iconst (x := 0) rfl (by decide) (xnm_no rfl) ?_
    cases h
    exact e_retI rfl (by decide)
  · refine e_iload_n rfl rfl (xnm_no rfl) ?_
    refine e_sipush (x := 256) rfl (by decide) (xnm_no rfl) ?_
    refine e_icmp_ge (t := 53) rfl rfl (xnm_no rfl) (xnm_no rfl) h (fun h => ?_) (fun h => ?_)
    · refine e_iconst (x := 0) rfl (by decide) (xnm_no rfl) ?_
      cases h
      exact e_retI rfl (by decide)
    · refine e_aload_n rfl rfl rfl (xnm_no rfl) ?_
      refine e_getR (r := 131) rfl rfl rfl rfl rfl (xnm_no rfl) ?_
      refine e_iload_n rfl rfl (xnm_no rfl) ?_
      obtain ⟨g1, h⟩ := xgd_some h
      refine e_bald rfl (xor2 g1) (xnm_no rfl) ?_
      refine e_if_eq (t := 47) rfl rfl (xnm_no rfl) (xnm_no rfl) h (fun h => ?_) (fun h => ?_)
      · refine e_iinc (y := 1) rfl rfl rfl (by decide) (xnm_no rfl) ?_
        refine e_goto (t := 2) rfl rfl rfl ?_
        exact xlfI h
      · refine e_iload_n rfl rfl (xnm_no rfl) ?_
        refine e_iload_n rfl rfl (xnm_no rfl) ?_
        refine e_iand rfl (xnm_no rfl) ?_
        refine e_if_eq (t := 47) rfl rfl (xnm_no rfl) (xnm_no rfl) h (fun h => ?_) (fun h => ?_)
        · refine e_iinc (y := 1) rfl rfl rfl (by decide) (xnm_no rfl) ?_
          refine e_goto (t := 2) rfl rfl rfl ?_
          exact xlfI h
        · refine e_iload_n rfl rfl (xnm_no rfl) ?_
          refine e_iload_n rfl rfl (xnm_no rfl) ?_
          refine e_iconst (x := -1) rfl (by decide) (xnm_no rfl) ?_
          refine e_ixor rfl (xnm_no rfl) ?_
          refine e_iand rfl (xnm_no rfl) ?_
          refine e_if_eq (t := 47) rfl rfl (xnm_no rfl) (xnm_no rfl) h (fun h => ?_) (fun h => ?_)
          · refine e_iinc (y := 1) rfl rfl rfl (by decide) (xnm_no rfl) ?_
            refine e_goto (t := 2) rfl rfl rfl ?_
            exact xlfI h
          · refine e_iload_n rfl rfl (xnm_no rfl) ?_
            refine e_iload_n rfl rfl (xnm_no rfl) ?_
            refine e_iconst (x := -1) rfl (by decide) (xnm_no rfl) ?_
            refine e_ixor rfl (xnm_no rfl) ?_
            refine e_iand rfl (xnm_no rfl) ?_
            refine e_if_eq (t := 47) rfl rfl (xnm_no rfl) (xnm_no rfl) h (fun h => ?_) (fun h => ?_)
            · refine e_iinc (y := 1) rfl rfl rfl (by decide) (xnm_no rfl) ?_
              refine e_goto (t := 2) rfl rfl rfl ?_
              exact xlfI h
            · refine e_iconst (x := 1) rfl (by decide) (xnm_no rfl) ?_
              cases h
              exact e_retI rfl (by decide)
set_option maxRecDepth 4000 in
theorem fX9_partOf_i (v0 : Nat) (v1 : Int32) (v2 : Int32) (m : xmm) {z : Int32 × xmm} (h : (bX9_partOf_7 v0 v1 ((1 : Int32) <<< (v2 &&& 31)) (0 : Int32) m) = some z) : fX9_partOf v0 v1 v2 m = some z := by
  refine xstI ?_
  show xT 102 2 0 [(0, .ref v0), (1, .int v1), (2, .int v2)] [] m (some (.int z.1), z.2)
  refine e_iconst (x := 1) rfl (by decide) (xnm_no rfl) ?_
  refine e_iload_n rfl rfl (xnm_no rfl) ?_
  refine e_ishl rfl (xnm_no rfl) ?_
  refine e_istore_n rfl rfl (xnm_no rfl) ?_
  refine e_iconst (x := 0) rfl (by decide) (xnm_no rfl) ?_
  refine e_istore rfl rfl rfl ?_
  exact xlfI h
set_option maxRecDepth 4000 in
theorem bX9_partOf_7_i (v0 : Nat) (v1 : Int32) (v3 : Int32) (v4 : Int32) (m : xmm) {z : Int32 × xmm} (h : (if (8 : Int32) ≤ v4 then some (v3, m) else xgd (!(Nat.beq v0 1999)) ((fX9_touched v0 v3 m).bind fun (w2 : Int32 × xmm) => bX9_partOf_7 v0 v1 (v3 ||| (w2.1 &&& v1)) (v4 + (1 : Int32)) w2.2)) = some z) : bX9_partOf_7 v0 v1 v3 v4 m = some z := by
  refine xstI ?_
  show xT 102 2 7 [(0, .ref v0), (1, .int v1), (3, .int v3), (4, .int v4)] [] m (some (.int z.1), z.2)
  refine e_iload rfl rfl (xnm_no rfl) ?_
  refine e_bipush (x := 8) rfl (by decide) (xnm_no rfl) ?_
  refine e_icmp_ge (t := 30) rfl rfl (xnm_no rfl) (xnm_no rfl) h (fun h => ?_) (fun h => ?_)
  · refine e_iload_n rfl rfl (xnm_no rfl) ?_
    cases h
    exact e_retI rfl rfl
  · refine e_iload_n rfl rfl (xnm_no rfl) ?_
    obtain ⟨g1, h⟩ := xgd_some h
    refine e_aload_n rfl rfl (xnb g1) (xnm_no rfl) ?_
    refine e_iload_n rfl rfl (xnm_no rfl) ?_
    obtain ⟨w2, hw3, h⟩ := xbd_some h
    refine e_cIS (hc := hw3) (rest := [.int _]) rfl rfl rfl rfl rfl rfl rfl rfl (xnm_no rfl) ?_
    refine e_iload_n rfl rfl (xnm_no rfl) ?_
    refine e_iand rfl (xnm_no rfl) ?_
    refine e_ior rfl (xnm_no rfl) ?_
    refine e_istore_n rfl rfl (xnm_no rfl) ?_
    refine e_iinc (y := 1) rfl rfl rfl (by decide) (xnm_no rfl) ?_
    refine e_goto (t := 7) rfl rfl rfl ?_
    exact xlfI h
set_option maxRecDepth 4000 in
theorem fX9_parts_i (v0 : Nat) (v1 : Int32) (m : xmm) {z : Int32 × xmm} (h : (bX9_parts_7 v0 v1 (0 : Int32) v1 (0 : Int32) m) = some z) : fX9_parts v0 v1 m = some z := by
  refine xstI ?_
  show xT 101 3 0 [(0, .ref v0), (1, .int v1)] [] m (some (.int z.1), z.2)
  refine e_iconst (x := 0) rfl (by decide) (xnm_no rfl) ?_
  refine e_istore_n rfl rfl (xnm_no rfl) ?_
  refine e_iload_n rfl rfl (xnm_no rfl) ?_
  refine e_istore_n rfl rfl (xnm_no rfl) ?_
  refine e_iconst (x := 0) rfl (by decide) (xnm_no rfl) ?_
  refine e_istore rfl rfl rfl ?_
  exact xlfI h
set_option maxRecDepth 4000 in
theorem bX9_parts_7_i (v0 : Nat) (v1 : Int32) (v2 : Int32) (v3 : Int32) (v4 : Int32) (m : xmm) {z : Int32 × xmm} (h : (if (8 : Int32) ≤ v4 then some (v2, m) else (fX11_contains v3 v4 m).bind fun (w1 : Int32 × xmm) => if w1.1 = 0 then bX9_parts_7 v0 v1 v2 v3 (v4 + (1 : Int32)) w1.2 else xgd (!(Nat.beq v0 1999)) ((fX9_partOf v0 v1 v4 w1.2).bind fun (w4 : Int32 × xmm) => bX9_parts_7 v0 v1 (v2 + (1 : Int32)) (v3 &&& (w4.1 ^^^ (-1 : Int32))) (v4 + (1 : Int32)) w4.2)) = some z) : bX9_parts_7 v0 v1 v2 v3 v4 m = some z := by
  refine xstI ?_
  show xT 101 3 7 [(0, .ref v0), (1, .int v1), (2, .int v2), (3, .int v3), (4, .int v4)] [] m (some (.int z.1), z.2)
  refine e_iload rfl rfl (xnm_no rfl) ?_
  refine e_bipush (x := 8) rfl (by decide) (xnm_no rfl) ?_
  refine e_icmp_ge (t := 44) rfl rfl (xnm_no rfl) (xnm_no rfl) h (fun h => ?_) (fun h => ?_)
  · refine e_iload_n rfl rfl (xnm_no rfl) ?_
    cases h
    exact e_retI rfl rfl
  · refine e_iload_n rfl rfl (xnm_no rfl) ?_
    refine e_iload rfl rfl (xnm_no rfl) ?_
    obtain ⟨w1, hw2, h⟩ := xbd_some h
    refine e_cIS (hc := hw2) (rest := []) rfl rfl rfl rfl rfl rfl rfl rfl (xnm_no rfl) ?_
    refine e_if_eq (t := 38) rfl rfl (xnm_no rfl) (xnm_no rfl) h (fun h => ?_) (fun h => ?_)
    · refine e_iinc (y := 1) rfl rfl rfl (by decide) (xnm_no rfl) ?_
      refine e_goto (t := 7) rfl rfl rfl ?_
      exact xlfI h
    · refine e_iload_n rfl rfl (xnm_no rfl) ?_
      obtain ⟨g3, h⟩ := xgd_some h
      refine e_aload_n rfl rfl (xnb g3) (xnm_no rfl) ?_
      refine e_iload_n rfl rfl (xnm_no rfl) ?_
      refine e_iload rfl rfl (xnm_no rfl) ?_
      obtain ⟨w4, hw5, h⟩ := xbd_some h
      refine e_cIS (hc := hw5) (rest := [.int _]) rfl rfl rfl rfl rfl rfl rfl rfl (xnm_no rfl) ?_
      refine e_iconst (x := -1) rfl (by decide) (xnm_no rfl) ?_
      refine e_ixor rfl (xnm_no rfl) ?_
      refine e_iand rfl (xnm_no rfl) ?_
      refine e_istore_n rfl rfl (xnm_no rfl) ?_
      refine e_iinc (y := 1) rfl rfl rfl (by decide) (xnm_no rfl) ?_
      refine e_iinc (y := 1) rfl rfl rfl (by decide) (xnm_no rfl) ?_
      refine e_goto (t := 7) rfl rfl rfl ?_
      exact xlfI h
set_option maxRecDepth 4000 in
theorem fX2_factorial_i (v0 : Int32) (m : xmm) {z : Int32 × xmm} (h : (bX2_factorial_4 v0 (1 : Int32) (2 : Int32) m) = some z) : fX2_factorial v0 m = some z := by
  refine xstI ?_
  show xT 22 0 0 [(0, .int v0)] [] m (some (.int z.1), z.2)
  refine e_iconst (x := 1) rfl (by decide) (xnm_no rfl) ?_
  refine e_istore_n rfl rfl (xnm_no rfl) ?_
  refine e_iconst (x := 2) rfl (by decide) (xnm_no rfl) ?_
  refine e_istore_n rfl rfl rfl ?_
  exact xlfI h
set_option maxRecDepth 4000 in
theorem bX2_factorial_4_i (v0 : Int32) (v1 : Int32) (v2 : Int32) (m : xmm) {z : Int32 × xmm} (h : (if v0 < v2 then some (v1, m) else if (8 : Int32) < v2 then some (v1, m) else bX2_factorial_4 v0 (v1 * v2) (v2 + (1 : Int32)) m) = some z) : bX2_factorial_4 v0 v1 v2 m = some z := by
  refine xstI ?_
  show xT 22 0 4 [(0, .int v0), (1, .int v1), (2, .int v2)] [] m (some (.int z.1), z.2)
  refine e_iload_n rfl rfl (xnm_no rfl) ?_
  refine e_iload_n rfl rfl (xnm_no rfl) ?_
  refine e_icmp_gt (t := 25) rfl rfl (xnm_no rfl) (xnm_no rfl) h (fun h => ?_) (fun h => ?_)
  · refine e_iload_n rfl rfl (xnm_no rfl) ?_
    cases h
    exact e_retI rfl rfl
  · refine e_iload_n rfl rfl (xnm_no rfl) ?_
    refine e_bipush (x := 8) rfl (by decide) (xnm_no rfl) ?_
    refine e_icmp_gt (t := 25) rfl rfl (xnm_no rfl) (xnm_no rfl) h (fun h => ?_) (fun h => ?_)
    · refine e_iload_n rfl rfl (xnm_no rfl) ?_
      cases h
      exact e_retI rfl rfl
    · refine e_iload_n rfl rfl (xnm_no rfl) ?_
      refine e_iload_n rfl rfl (xnm_no rfl) ?_
      refine e_imul rfl (xnm_no rfl) ?_
      refine e_istore_n rfl rfl (xnm_no rfl) ?_
      refine e_iinc (y := 1) rfl rfl rfl (by decide) (xnm_no rfl) ?_
      refine e_goto (t := 4) rfl rfl rfl ?_
      exact xlfI h
set_option maxRecDepth 4000 in
theorem fX2_ownWays_i (v0 : Nat) (v1 : Nat) (v2 : Int32) (m : xmm) {z : Int32 × xmm} (h : (xgd (!(Nat.beq v0 1999)) (xgd (xob v0 3) (xgr (xR0 v0 2) fun r3 => (fX9_parts r3 v2 m).bind fun (w5 : Int32 × xmm) => if (1 : Int32) < w5.1 then some ((1 : Int32), w5.2) else (fJ6_bitCount v2 w5.2).bind fun (w7 : Int32 × xmm) => if (2 : Int32) ≤ w7.1 then xgd (!(Nat.beq v1 1999)) (xgd (xob v1 3) (xgr (xR0 v1 2) fun r11 => (fX9_parts r11 v2 w7.2).bind fun (w13 : Int32 × xmm) => if w13.1 = (1 : Int32) then some ((2 : Int32), w13.2) else (fX2_factorial w13.1 w13.2).bind fun (w15 : Int32 × xmm) => some (w15.1, w15.2))) else some ((1 : Int32), w7.2)))) = some z) : fX2_ownWays v0 v1 v2 m = some z := by
  refine xstI ?_
  show xT 21 4 0 [(0, .ref v0), (1, .ref v1), (2, .int v2)] [] m (some (.int z.1), z.2)
  obtain ⟨g1, h⟩ := xgd_some h
  refine e_aload_n rfl rfl (xnb g1) (xnm_no rfl) ?_
  obtain ⟨g2, h⟩ := xgd_some h
  obtain ⟨r3, hr4, h⟩ := xgr_some h
  refine e_getR rfl rfl rfl g2 hr4 (xnm_no rfl) ?_
  refine e_iload_n rfl rfl (xnm_no rfl) ?_
  obtain ⟨w5, hw6, h⟩ := xbd_some h
  refine e_cIS (hc := hw6) (rest := []) rfl rfl rfl rfl rfl rfl rfl rfl (xnm_no rfl) ?_
  refine e_iconst (x := 1) rfl (by decide) (xnm_no rfl) ?_
  refine e_icmp_gt (t := 20) rfl rfl (xnm_no rfl) (xnm_no rfl) h (fun h => ?_) (fun h => ?_)
  · refine e_iconst (x := 1) rfl (by decide) (xnm_no rfl) ?_
    cases h
    exact e_retI rfl rfl
  · refine e_iload_n rfl rfl (xnm_no rfl) ?_
    obtain ⟨w7, hw8, h⟩ := xbd_some h
    refine e_cIS (hc := hw8) (rest := []) rfl rfl rfl rfl rfl rfl rfl rfl (xnm_no rfl) ?_
    refine e_iconst (x := 2) rfl (by decide) (xnm_no rfl) ?_
    refine e_icmp_ge (t := 22) rfl rfl (xnm_no rfl) (xnm_no rfl) h (fun h => ?_) (fun h => ?_)
    · obtain ⟨g9, h⟩ := xgd_some h
      refine e_aload_n rfl rfl (xnb g9) (xnm_no rfl) ?_
      obtain ⟨g10, h⟩ := xgd_some h
      obtain ⟨r11, hr12, h⟩ := xgr_some h
      refine e_getR rfl rfl rfl g10 hr12 (xnm_no rfl) ?_
      refine e_iload_n rfl rfl (xnm_no rfl) ?_
      obtain ⟨w13, hw14, h⟩ := xbd_some h
      refine e_cIS (hc := hw14) (rest := []) rfl rfl rfl rfl rfl rfl rfl rfl (xnm_no rfl) ?_
      refine e_istore_n rfl rfl (xnm_no rfl) ?_
      refine e_iload_n rfl rfl (xnm_no rfl) ?_
      refine e_iconst (x := 1) rfl (by decide) (xnm_no rfl) ?_
      refine e_icmp_ne (t := 40) rfl rfl (xnm_no rfl) (xnm_no rfl) h (fun h => ?_) (fun h => ?_)
      · refine e_iload_n rfl rfl (xnm_no rfl) ?_
        obtain ⟨w15, hw16, h⟩ := xbd_some h
        refine e_cIS (hc := hw16) (rest := []) rfl rfl rfl rfl rfl rfl rfl rfl (xnm_no rfl) ?_
        cases h
        exact e_retI rfl rfl
      · refine e_iconst (x := 2) rfl (by decide) (xnm_no rfl) ?_
        refine e_goto (t := 44) rfl rfl (xnm_no rfl) ?_
        cases h
        exact e_retI rfl rfl
    · refine e_iconst (x := 1) rfl (by decide) (xnm_no rfl) ?_
      cases h
      exact e_retI rfl rfl
