set_option maxRecDepth 4000 in
theorem fX12_downMany_144_i (m : xmm) {z : Int32 × xmm} (h : (bX12_downMany_144_4 (0 : Int32) (0 : Int32) m) = some z) : fX12_downMany_144 m = some z := by
  refine xstI ?_
  show xT 234 1 0 [(0, .ref 144)] [] m (some (.int z.1), z.2)
  refine e_iconst (x := 0) rfl (by decide) (xnm_no rfl) ?_
  refine e_istore_n rfl rfl (xnm_no rfl) ?_
  refine e_iconst (x := 0) rfl (by decide) (xnm_no rfl) ?_
  refine e_istore_n rfl rfl rfl ?_
  exact xlfI h
set_option maxRecDepth 4000 in
theorem bX12_downMany_144_4_i (v1 : Int32) (v2 : Int32) (m : xmm) {z : Int32 × xmm} (h : (if ((1 : Int32) <<< ((m.1 144 17) &&& 31)) ≤ v2 then some (v1, m) else bX12_downMany_144_19 v1 v2 (1 : Int32) (0 : Int32) m) = some z) : bX12_downMany_144_4 v1 v2 m = some z := by
  refine xstI ?_
  show xT 234 1 4 [(0, .ref 144), (1, .int v1), (2, .int v2)] [] m (some (.int z.1), z.2)
  refine e_iload_n rfl rfl (xnm_no rfl) ?_
  refine e_iconst (x := 1) rfl (by decide) (xnm_no rfl) ?_
  refine e_aload_n rfl rfl rfl (xnm_no rfl) ?_
  refine e_getI rfl rfl rfl rfl (xnm_no rfl) ?_
  refine e_ishl rfl (xnm_no rfl) ?_
  refine e_icmp_ge (t := 72) rfl rfl (xnm_no rfl) (xnm_no rfl) h (fun h => ?_) (fun h => ?_)
  · refine e_iload_n rfl rfl (xnm_no rfl) ?_
    cases h
    exact e_retI rfl rfl
  · refine e_iconst (x := 1) rfl (by decide) (xnm_no rfl) ?_
    refine e_istore_n rfl rfl (xnm_no rfl) ?_
    refine e_iconst (x := 0) rfl (by decide) (xnm_no rfl) ?_
    refine e_istore rfl rfl rfl ?_
    exact xlfI h
set_option maxRecDepth 4000 in
theorem bX12_downMany_144_19_i (v1 : Int32) (v2 : Int32) (v3 : Int32) (v4 : Int32) (m : xmm) {z : Int32 × xmm} (h : (if (m.1 144 17) ≤ v4 then if v3 = 0 then bX12_downMany_144_4 v1 (v2 + (1 : Int32)) m else bX12_downMany_144_4 (v1 + (1 : Int32)) (v2 + (1 : Int32)) m else (fX12_has v2 v4 m).bind fun (w1 : Int32 × xmm) => if w1.1 = 0 then bX12_downMany_144_19 v1 v2 v3 (v4 + (1 : Int32)) w1.2 else xgd (xinb 8 v4) (if ((w1.2.1 165 (v4).toNatClampNeg) &&& (v2 ^^^ (-1 : Int32))) = 0 then bX12_downMany_144_19 v1 v2 v3 (v4 + (1 : Int32)) w1.2 else bX12_downMany_144_19 v1 v2 (0 : Int32) (v4 + (1 : Int32)) w1.2)) = some z) : bX12_downMany_144_19 v1 v2 v3 v4 m = some z := by
  refine xstI ?_
  show xT 234 1 19 [(0, .ref 144), (1, .int v1), (2, .int v2), (3, .int v3), (4, .int v4)] [] m (some (.int z.1), z.2)
  refine e_iload rfl rfl (xnm_no rfl) ?_
  refine e_aload_n rfl rfl rfl (xnm_no rfl) ?_
  refine e_getI rfl rfl rfl rfl (xnm_no rfl) ?_
  refine e_icmp_ge (t := 59) rfl rfl (xnm_no rfl) (xnm_no rfl) h (fun h => ?_) (fun h => ?_)
  · refine e_iload_n rfl rfl (xnm_no rfl) ?_
    refine e_if_eq (t := 66) rfl rfl (xnm_no rfl) (xnm_no rfl) h (fun h => ?_) (fun h => ?_)
    · refine e_iinc (y := 1) rfl rfl rfl (by decide) (xnm_no rfl) ?_
      refine e_goto (t := 4) rfl rfl rfl ?_
      exact xlfI h
    · refine e_iinc (y := 1) rfl rfl rfl (by decide) (xnm_no rfl) ?_
      refine e_iinc (y := 1) rfl rfl rfl (by decide) (xnm_no rfl) ?_
      refine e_goto (t := 4) rfl rfl rfl ?_
      exact xlfI h
  · refine e_iload_n rfl rfl (xnm_no rfl) ?_
    refine e_iload rfl rfl (xnm_no rfl) ?_
    obtain ⟨w1, hw2, h⟩ := xbd_some h
    refine e_cIS (hc := hw2) (rest := []) rfl rfl rfl rfl rfl rfl rfl rfl (xnm_no rfl) ?_
    refine e_if_eq (t := 53) rfl rfl (xnm_no rfl) (xnm_no rfl) h (fun h => ?_) (fun h => ?_)
    · refine e_iinc (y := 1) rfl rfl rfl (by decide) (xnm_no rfl) ?_
      refine e_goto (t := 19) rfl rfl rfl ?_
      exact xlfI h
    · refine e_aload_n rfl rfl rfl (xnm_no rfl) ?_
      refine e_getR (r := 165) rfl rfl rfl rfl rfl (xnm_no rfl) ?_
      refine e_iload rfl rfl (xnm_no rfl) ?_
      obtain ⟨g3, h⟩ := xgd_some h
      refine e_iald rfl g3 (xnm_no rfl) ?_
      refine e_iload_n rfl rfl (xnm_no rfl) ?_
      refine e_iconst (x := -1) rfl (by decide) (xnm_no rfl) ?_
      refine e_ixor rfl (xnm_no rfl) ?_
      refine e_iand rfl (xnm_no rfl) ?_
      refine e_if_eq (t := 53) rfl rfl (xnm_no rfl) (xnm_no rfl) h (fun h => ?_) (fun h => ?_)
      · refine e_iinc (y := 1) rfl rfl rfl (by decide) (xnm_no rfl) ?_
        refine e_goto (t := 19) rfl rfl rfl ?_
        exact xlfI h
      · refine e_iconst (x := 0) rfl (by decide) (xnm_no rfl) ?_
        refine e_istore_n rfl rfl (xnm_no rfl) ?_
        refine e_iinc (y := 1) rfl rfl rfl (by decide) (xnm_no rfl) ?_
        refine e_goto (t := 19) rfl rfl rfl ?_
        exact xlfI h
set_option maxRecDepth 4000 in
theorem fX12_jumpsTo_144_i (v1 : Int32) (v2 : Int32) (m : xmm) {z : Int32 × xmm} (h : (xgd (xinb 8 v2) (if ((m.1 165 (v2).toNatClampNeg) &&& ((v1 ^^^ ((1 : Int32) <<< (v2 &&& 31))) ^^^ (-1 : Int32))) = 0 then if (v1 ^^^ ((1 : Int32) <<< (v2 &&& 31))) = 0 then some ((0 : Int32), m) else bX12_jumpsTo_144_35 v2 (v1 ^^^ ((1 : Int32) <<< (v2 &&& 31))) (99 : Int32) (0 : Int32) m else some ((99 : Int32), m))) = some z) : fX12_jumpsTo_144 v1 v2 m = some z := by
  refine xstI ?_
  show xT 236 1 0 [(0, .ref 144), (1, .int v1), (2, .int v2)] [] m (some (.int z.1), z.2)
  refine e_iload_n rfl rfl (xnm_no rfl) ?_
  refine e_iconst (x := 1) rfl (by decide) (xnm_no rfl) ?_
  refine e_iload_n rfl rfl (xnm_no rfl) ?_
  refine e_ishl rfl (xnm_no rfl) ?_
  refine e_ixor rfl (xnm_no rfl) ?_
  refine e_istore_n rfl rfl (xnm_no rfl) ?_
  refine e_aload_n rfl rfl rfl (xnm_no rfl) ?_
  refine e_getR (r := 165) rfl rfl rfl rfl rfl (xnm_no rfl) ?_
  refine e_iload_n rfl rfl (xnm_no rfl) ?_
  obtain ⟨g1, h⟩ := xgd_some h
  refine e_iald rfl g1 (xnm_no rfl) ?_
  refine e_iload_n rfl rfl (xnm_no rfl) ?_
  refine e_iconst (x := -1) rfl (by decide) (xnm_no rfl) ?_
  refine e_ixor rfl (xnm_no rfl) ?_
  refine e_iand rfl (xnm_no rfl) ?_
  refine e_if_eq (t := 22) rfl rfl (xnm_no rfl) (xnm_no rfl) h (fun h => ?_) (fun h => ?_)
  · refine e_iload_n rfl rfl (xnm_no rfl) ?_
    refine e_if_ne (t := 28) rfl rfl (xnm_no rfl) (xnm_no rfl) h (fun h => ?_) (fun h => ?_)
    · refine e_bipush (x := 99) rfl (by decide) (xnm_no rfl) ?_
      refine e_istore rfl rfl (xnm_no rfl) ?_
      refine e_iconst (x := 0) rfl (by decide) (xnm_no rfl) ?_
      refine e_istore rfl rfl rfl ?_
      exact xlfI h
    · refine e_iconst (x := 0) rfl (by decide) (xnm_no rfl) ?_
      cases h
      exact e_retI rfl rfl
  · refine e_bipush (x := 99) rfl (by decide) (xnm_no rfl) ?_
    cases h
    exact e_retI rfl rfl
set_option maxRecDepth 4000 in
theorem bX12_jumpsTo_144_35_i (v2 : Int32) (v3 : Int32) (v4 : Int32) (v5 : Int32) (m : xmm) {z : Int32 × xmm} (h : (if (m.1 144 17) ≤ v5 then some (v4, m) else (fX12_has v3 v5 m).bind fun (w1 : Int32 × xmm) => if w1.1 = 0 then bX12_jumpsTo_144_35 v2 v3 v4 (v5 + (1 : Int32)) w1.2 else xgd (xinb 2048 (((8 : Int32) * v3) + v5)) (xgd (xinb 9 v2) ((fX12_has (w1.2.1 152 (v2).toNatClampNeg) v5 w1.2).bind fun (w5 : Int32 × xmm) => if w5.1 = 0 then bX12_jumpsTo_144_87 v2 v3 v4 v5 (w1.2.1 176 ((((8 : Int32) * v3) + v5)).toNatClampNeg) (1 : Int32) w5.2 else bX12_jumpsTo_144_87 v2 v3 v4 v5 (w1.2.1 176 ((((8 : Int32) * v3) + v5)).toNatClampNeg) (0 : Int32) w5.2))) = some z) : bX12_jumpsTo_144_35 v2 v3 v4 v5 m = some z := by
  refine xstI ?_
  show xT 236 1 35 [(0, .ref 144), (2, .int v2), (3, .int v3), (4, .int v4), (5, .int v5)] [] m (some (.int z.1), z.2)
  refine e_iload rfl rfl (xnm_no rfl) ?_
  refine e_aload_n rfl rfl rfl (xnm_no rfl) ?_
  refine e_getI rfl rfl rfl rfl (xnm_no rfl) ?_
  refine e_icmp_ge (t := 112) rfl rfl (xnm_no rfl) (xnm_no rfl) h (fun h => ?_) (fun h => ?_)
  · refine e_iload rfl rfl (xnm_no rfl) ?_
    cases h
    exact e_retI rfl rfl
  · refine e_iload_n rfl rfl (xnm_no rfl) ?_
    refine e_iload rfl rfl (xnm_no rfl) ?_
    obtain ⟨w1, hw2, h⟩ := xbd_some h
    refine e_cIS (hc := hw2) (rest := []) rfl rfl rfl rfl rfl rfl rfl rfl (xnm_no rfl) ?_
    refine e_if_ne (t := 56) rfl rfl (xnm_no rfl) (xnm_no rfl) h (fun h => ?_) (fun h => ?_)
    · refine e_aload_n rfl rfl rfl (xnm_no rfl) ?_
      refine e_getR (r := 176) rfl rfl rfl rfl rfl (xnm_no rfl) ?_
      refine e_bipush (x := 8) rfl (by decide) (xnm_no rfl) ?_
      refine e_iload_n rfl rfl (xnm_no rfl) ?_
      refine e_imul rfl (xnm_no rfl) ?_
      refine e_iload rfl rfl (xnm_no rfl) ?_
      refine e_iadd rfl (xnm_no rfl) ?_
      obtain ⟨g3, h⟩ := xgd_some h
      refine e_iald rfl g3 (xnm_no rfl) ?_
      refine e_aload_n rfl rfl rfl (xnm_no rfl) ?_
      refine e_getR (r := 152) rfl rfl rfl rfl rfl (xnm_no rfl) ?_
      refine e_iload_n rfl rfl (xnm_no rfl) ?_
      obtain ⟨g4, h⟩ := xgd_some h
      refine e_iald rfl g4 (xnm_no rfl) ?_
      refine e_iload rfl rfl (xnm_no rfl) ?_
      obtain ⟨w5, hw6, h⟩ := xbd_some h
      refine e_cIS (hc := hw6) (rest := [.int _]) rfl rfl rfl rfl rfl rfl rfl rfl (xnm_no rfl) ?_
      refine e_if_eq (t := 86) rfl rfl (xnm_no rfl) (xnm_no rfl) h (fun h => ?_) (fun h => ?_)
      · refine e_iconst (x := 1) rfl (by decide) rfl ?_
        exact xlfI h
      · refine e_iconst (x := 0) rfl (by decide) (xnm_no rfl) ?_
        refine e_goto (t := 87) rfl rfl rfl ?_
        exact xlfI h
    · refine e_goto (t := 106) rfl rfl (xnm_no rfl) ?_
      refine e_iinc (y := 1) rfl rfl rfl (by decide) (xnm_no rfl) ?_
      refine e_goto (t := 35) rfl rfl rfl ?_
      exact xlfI h
set_option maxRecDepth 4000 in
theorem bX12_jumpsTo_144_87_i (v2 : Int32) (v3 : Int32) (v4 : Int32) (v5 : Int32) (s0 : Int32) (s1 : Int32) (m : xmm) {z : Int32 × xmm} (h : (if v4 ≤ (s0 + s1) then bX12_jumpsTo_144_35 v2 v3 v4 (v5 + (1 : Int32)) m else bX12_jumpsTo_144_35 v2 v3 (s0 + s1) (v5 + (1 : Int32)) m) = some z) : bX12_jumpsTo_144_87 v2 v3 v4 v5 s0 s1 m = some z := by
  refine xstI ?_
  show xT 236 1 87 [(0, .ref 144), (2, .int v2), (3, .int v3), (4, .int v4), (5, .int v5)] [.int s1, .int s0] m (some (.int z.1), z.2)
  refine e_iadd rfl (xnm_no rfl) ?_
  refine e_istore rfl rfl (xnm_no rfl) ?_
  refine e_iload rfl rfl (xnm_no rfl) ?_
  refine e_iload rfl rfl (xnm_no rfl) ?_
  refine e_icmp_ge (t := 102) rfl rfl (xnm_no rfl) (xnm_no rfl) h (fun h => ?_) (fun h => ?_)
  · refine e_iload rfl rfl (xnm_no rfl) ?_
    refine e_istore rfl rfl (xnm_no rfl) ?_
    refine e_iinc (y := 1) rfl rfl rfl (by decide) (xnm_no rfl) ?_
    refine e_goto (t := 35) rfl rfl rfl ?_
    exact xlfI h
  · refine e_iload rfl rfl (xnm_no rfl) ?_
    refine e_goto (t := 104) rfl rfl (xnm_no rfl) ?_
    refine e_istore rfl rfl (xnm_no rfl) ?_
    refine e_iinc (y := 1) rfl rfl rfl (by decide) (xnm_no rfl) ?_
    refine e_goto (t := 35) rfl rfl rfl ?_
    exact xlfI h
set_option maxRecDepth 4000 in
theorem fX12_fewestJumps_144_i (m : xmm) {z : Int32 × xmm} (h : (if (m.1 144 17) = 0 then some ((0 : Int32), m) else bX12_fewestJumps_144_11 (1 : Int32) m) = some z) : fX12_fewestJumps_144 m = some z := by
  refine xstI ?_
  show xT 235 2 0 [(0, .ref 144)] [] m (some (.int z.1), z.2)
  refine e_aload_n rfl rfl rfl (xnm_no rfl) ?_
  refine e_getI rfl rfl rfl rfl (xnm_no rfl) ?_
  refine e_if_ne (t := 9) rfl rfl (xnm_no rfl) (xnm_no rfl) h (fun h => ?_) (fun h => ?_)
  · refine e_iconst (x := 1) rfl (by decide) (xnm_no rfl) ?_
    refine e_istore_n rfl rfl rfl ?_
    exact xlfI h
  · refine e_iconst (x := 0) rfl (by decide) (xnm_no rfl) ?_
    cases h
    exact e_retI rfl rfl
set_option maxRecDepth 4000 in
theorem bX12_fewestJumps_144_11_i (v1 : Int32) (m : xmm) {z : Int32 × xmm} (h : (if ((1 : Int32) <<< ((m.1 144 17) &&& 31)) ≤ v1 then bX12_fewestJumps_144_78 (99 : Int32) (0 : Int32) m else bX12_fewestJumps_144_23 v1 (0 : Int32) m) = some z) : bX12_fewestJumps_144_11 v1 m = some z := by
  refine xstI ?_
  show xT 235 2 11 [(0, .ref 144), (1, .int v1)] [] m (some (.int z.1), z.2)
  refine e_iload_n rfl rfl (xnm_no rfl) ?_
  refine e_iconst (x := 1) rfl (by decide) (xnm_no rfl) ?_
  refine e_aload_n rfl rfl rfl (xnm_no rfl) ?_
  refine e_getI rfl rfl rfl rfl (xnm_no rfl) ?_
  refine e_ishl rfl (xnm_no rfl) ?_
  refine e_icmp_ge (t := 73) rfl rfl (xnm_no rfl) (xnm_no rfl) h (fun h => ?_) (fun h => ?_)
  · refine e_bipush (x := 99) rfl (by decide) (xnm_no rfl) ?_
    refine e_istore_n rfl rfl (xnm_no rfl) ?_
    refine e_iconst (x := 0) rfl (by decide) (xnm_no rfl) ?_
    refine e_istore_n rfl rfl rfl ?_
    exact xlfI h
  · refine e_iconst (x := 0) rfl (by decide) (xnm_no rfl) ?_
    refine e_istore_n rfl rfl rfl ?_
    exact xlfI h
set_option maxRecDepth 4000 in
theorem bX12_fewestJumps_144_78_i (v1 : Int32) (v2 : Int32) (m : xmm) {z : Int32 × xmm} (h : (if (m.1 144 17) ≤ v2 then some (v1, m) else xgd (xinb 2048 (((8 : Int32) * (((1 : Int32) <<< ((m.1 144 17) &&& 31)) - (1 : Int32))) + v2)) (if v1 ≤ (m.1 176 ((((8 : Int32) * (((1 : Int32) <<< ((m.1 144 17) &&& 31)) - (1 : Int32))) + v2)).toNatClampNeg) then bX12_fewestJumps_144_78 v1 (v2 + (1 : Int32)) m else xlt (m.1 176 ((((8 : Int32) * (((1 : Int32) <<< ((m.1 144 17) &&& 31)) - (1 : Int32))) + v2)).toNatClampNeg) fun (x2 : Int32) => bX12_fewestJumps_144_78 x2 (v2 + (1 : Int32)) m)) = some z) : bX12_fewestJumps_144_78 v1 v2 m = some z := by
  refine xstI ?_
  show xT 235 2 78 [(0, .ref 144), (1, .int v1), (2, .int v2)] [] m (some (.int z.1), z.2)
  refine e_iload_n rfl rfl (xnm_no rfl) ?_
  refine e_aload_n rfl rfl rfl (xnm_no rfl) ?_
  refine e_getI rfl rfl rfl rfl (xnm_no rfl) ?_
  refine e_icmp_ge (t := 133) rfl rfl (xnm_no rfl) (xnm_no rfl) h (fun h => ?_) (fun h => ?_)
  · refine e_iload_n rfl rfl (xnm_no rfl) ?_
    cases h
    exact e_retI rfl rfl
  · refine e_aload_n rfl rfl rfl (xnm_no rfl) ?_
    refine e_getR (r := 176) rfl rfl rfl rfl rfl (xnm_no rfl) ?_
    refine e_bipush (x := 8) rfl (by decide) (xnm_no rfl) ?_
    refine e_iconst (x := 1) rfl (by decide) (xnm_no rfl) ?_
    refine e_aload_n rfl rfl rfl (xnm_no rfl) ?_
    refine e_getI rfl rfl rfl rfl (xnm_no rfl) ?_
    refine e_ishl rfl (xnm_no rfl) ?_
    refine e_iconst (x := 1) rfl (by decide) (xnm_no rfl) ?_
    refine e_isub rfl (xnm_no rfl) ?_
    refine e_imul rfl (xnm_no rfl) ?_
    refine e_iload_n rfl rfl (xnm_no rfl) ?_
    refine e_iadd rfl (xnm_no rfl) ?_
    obtain ⟨g1, h⟩ := xgd_some h
    refine e_iald rfl g1 (xnm_no rfl) ?_
    refine e_iload_n rfl rfl (xnm_no rfl) ?_
    refine e_icmp_ge (t := 127) rfl rfl (xnm_no rfl) (xnm_no rfl) h (fun h => ?_) (fun h => ?_)
    · refine e_iinc (y := 1) rfl rfl rfl (by decide) (xnm_no rfl) ?_
      refine e_goto (t := 78) rfl rfl rfl ?_
      exact xlfI h
    · refine e_aload_n rfl rfl rfl (xnm_no rfl) ?_
      refine e_getR (r := 176) rfl rfl rfl rfl rfl (xnm_no rfl) ?_
      refine e_bipush (x := 8) rfl (by decide) (xnm_no rfl) ?_
      refine e_iconst (x := 1) rfl (by decide) (xnm_no rfl) ?_
      refine e_aload_n rfl rfl rfl (xnm_no rfl) ?_
      refine e_getI rfl rfl rfl rfl (xnm_no rfl) ?_
      refine e_ishl rfl (xnm_no rfl) ?_
      refine e_iconst (x := 1) rfl (by decide) (xnm_no rfl) ?_
      refine e_isub rfl (xnm_no rfl) ?_
      refine e_imul rfl (xnm_no rfl) ?_
      refine e_iload_n rfl rfl (xnm_no rfl) ?_
      refine e_iadd rfl (xnm_no rfl) ?_
      refine e_iald rfl g1 (xnm_no rfl) ?_
      replace h := xlt_b h
      refine e_istore_n rfl rfl (xnm_no rfl) ?_
      refine e_iinc (y := 1) rfl rfl rfl (by decide) (xnm_no rfl) ?_
      refine e_goto (t := 78) rfl rfl rfl ?_
      exact xlfI h
set_option maxRecDepth 4000 in
theorem bX12_fewestJumps_144_23_i (v1 : Int32) (v2 : Int32) (m : xmm) {z : Int32 × xmm} (h : (if (m.1 144 17) ≤ v2 then bX12_fewestJumps_144_11 (v1 + (1 : Int32)) m else (fX12_has v1 v2 m).bind fun (w1 : Int32 × xmm) => if w1.1 = 0 then xgd (xinb 2048 (((8 : Int32) * v1) + v2)) (xlt (xwi w1.2 176 ((((8 : Int32) * v1) + v2)).toNatClampNeg (99 : Int32)) fun (m4 : xmm) => bX12_fewestJumps_144_23 v1 (v2 + (1 : Int32)) m4) else (fX12_jumpsTo_144 v1 v2 w1.2).bind fun (w5 : Int32 × xmm) => xgd (xinb 2048 (((8 : Int32) * v1) + v2)) (xlt (xwi w5.2 176 ((((8 : Int32) * v1) + v2)).toNatClampNeg w5.1) fun (m8 : xmm) => bX12_fewestJumps_144_23 v1 (v2 + (1 : Int32)) m8)) = some z) : bX12_fewestJumps_144_23 v1 v2 m = some z := by
  refine xstI ?_
  show xT 235 2 23 [(0, .ref 144), (1, .int v1), (2, .int v2)] [] m (some (.int z.1), z.2)
  refine e_iload_n rfl rfl (xnm_no rfl) ?_
  refine e_aload_n rfl rfl rfl (xnm_no rfl) ?_
  refine e_getI rfl rfl rfl rfl (xnm_no rfl) ?_
  refine e_icmp_ge (t := 67) rfl rfl (xnm_no rfl) (xnm_no rfl) h (fun h => ?_) (fun h => ?_)
  · refine e_iinc (y := 1) rfl rfl rfl (by decide) (xnm_no rfl) ?_
    refine e_goto (t := 11) rfl rfl rfl ?_
    exact xlfI h
  · refine e_aload_n rfl rfl rfl (xnm_no rfl) ?_
    refine e_getR (r := 176) rfl rfl rfl rfl rfl (xnm_no rfl) ?_
    refine e_bipush (x := 8) rfl (by decide) (xnm_no rfl) ?_
    refine e_iload_n rfl rfl (xnm_no rfl) ?_
    refine e_imul rfl (xnm_no rfl) ?_
    refine e_iload_n rfl rfl (xnm_no rfl) ?_
    refine e_iadd rfl (xnm_no rfl) ?_
    refine e_iload_n rfl rfl (xnm_no rfl) ?_
    refine e_iload_n rfl rfl (xnm_no rfl) ?_
    obtain ⟨w1, hw2, h⟩ := xbd_some h
    refine e_cIS (hc := hw2) (rest := [.int _, .ref 176]) rfl rfl rfl rfl rfl rfl rfl rfl (xnm_no rfl) ?_
    refine e_if_eq (t := 58) rfl rfl (xnm_no rfl) (xnm_no rfl) h (fun h => ?_) (fun h => ?_)
    · refine e_bipush (x := 99) rfl (by decide) (xnm_no rfl) ?_
      obtain ⟨g3, h⟩ := xgd_some h
      refine e_iast rfl g3 (xnm_no rfl) ?_
      replace h := xlt_b h
      refine e_iinc (y := 1) rfl rfl rfl (by decide) (xnm_no rfl) ?_
      refine e_goto (t := 23) rfl rfl rfl ?_
      exact xlfI h
    · refine e_aload_n rfl rfl rfl (xnm_no rfl) ?_
      refine e_iload_n rfl rfl (xnm_no rfl) ?_
      refine e_iload_n rfl rfl (xnm_no rfl) ?_
      obtain ⟨w5, hw6, h⟩ := xbd_some h
      refine e_cIV (hc := hw6) (rest := [.int _, .ref 176]) rfl rfl rfl rfl rfl rfl rfl rfl (xnm_no rfl) ?_
      refine e_goto (t := 60) rfl rfl (xnm_no rfl) ?_
      obtain ⟨g7, h⟩ := xgd_some h
      refine e_iast rfl g7 (xnm_no rfl) ?_
      replace h := xlt_b h
      refine e_iinc (y := 1) rfl rfl rfl (by decide) (xnm_no rfl) ?_
      refine e_goto (t := 23) rfl rfl rfl ?_
      exact xlfI h
set_option maxRecDepth 4000 in
theorem fX12_order_144_i (v1 : Int32) (m : xmm) {z : Int32 × xmm} (h : ((fX12_in v1 (0 : Int32) (9 : Int32) m).bind fun (w1 : Int32 × xmm) => if w1.1 = 0 then some ((-1 : Int32), w1.2) else (fX12_isArrowed_144 w1.2).bind fun (w3 : Int32 × xmm) => if w3.1 = 0 then some ((-2 : Int32), w3.2) else if v1 = 0 then (fX12_straights_144 w3.2).bind fun (w6 : Int32 × xmm) => some (w6.1, w6.2) else if v1 = 1 then (fX12_coverMany_144 w3.2).bind fun (w9 : Int32 × xmm) => some (w9.1, w9.2) else if v1 = 2 then (fX12_greatestSet_144 (0 : Int32) w3.2).bind fun (w12 : Int32 × xmm) => (fX12_bitsOf w12.1 w12.2).bind fun (w14 : Int32 × xmm) => some (w14.1, w14.2) else if v1 = 3 then (fX12_greatestSet_144 (0 : Int32) w3.2).bind fun (w17 : Int32 × xmm) => some (w17.1, w17.2) else if v1 = 4 then (fX12_greatestSet_144 (1 : Int32) w3.2).bind fun (w20 : Int32 × xmm) => (fX12_bitsOf w20.1 w20.2).bind fun (w22 : Int32 × xmm) => some (w22.1, w22.2) else if v1 = 5 then (fX12_greatestSet_144 (1 : Int32) w3.2).bind fun (w25 : Int32 × xmm) => some (w25.1, w25.2) else if v1 = 6 then (fX12_fewestChains_144 w3.2).bind fun (w28 : Int32 × xmm) => some (w28.1, w28.2) else if v1 = 7 then (fX12_greatestLevel_144 w3.2).bind fun (w31 : Int32 × xmm) => some (w31.1, w31.2) else if v1 = 8 then (fX12_downMany_144 w3.2).bind fun (w34 : Int32 × xmm) => some (w34.1, w34.2) else (fX12_fewestJumps_144 w3.2).bind fun (w36 : Int32 × xmm) => some (w36.1, w36.2)) = some z) : fX12_order_144 v1 m = some z := by
  refine xstI ?_
  show xT 248 7 0 [(0, .ref 144), (1, .int v1)] [] m (some (.int z.1), z.2)
  refine e_iload_n rfl rfl (xnm_no rfl) ?_
  refine e_iconst (x := 0) rfl (by decide) (xnm_no rfl) ?_
  refine e_bipush (x := 9) rfl (by decide) (xnm_no rfl) ?_
  obtain ⟨w1, hw2, h⟩ := xbd_some h
  refine e_cIS (hc := hw2) (rest := []) rfl rfl rfl rfl rfl rfl rfl rfl (xnm_no rfl) ?_
  refine e_if_ne (t := 12) rfl rfl (xnm_no rfl) (xnm_no rfl) h (fun h => ?_) (fun h => ?_)
  · refine e_aload_n rfl rfl rfl (xnm_no rfl) ?_
    obtain ⟨w3, hw4, h⟩ := xbd_some h
    refine e_cIV (hc := hw4) (rest := []) rfl rfl rfl rfl rfl rfl rfl rfl (xnm_no rfl) ?_
    refine e_if_ne (t := 22) rfl rfl (xnm_no rfl) (xnm_no rfl) h (fun h => ?_) (fun h => ?_)
    · refine e_iload_n rfl rfl (xnm_no rfl) ?_
      by_cases c5 : v1 = 0
      · rw [if_pos c5] at h
        refine e_sw (t := 72) (o := 49) rfl (by decide) (xsw_p c5) rfl (xnm_no rfl) ?_
        refine e_aload_n rfl rfl rfl (xnm_no rfl) ?_
        obtain ⟨w6, hw7, h⟩ := xbd_some h
        refine e_cIV (hc := hw7) (rest := []) rfl rfl rfl rfl rfl rfl rfl rfl (xnm_no rfl) ?_
        cases h
        exact e_retI rfl rfl
      · rw [if_neg c5] at h
        by_cases c8 : v1 = 1
        · rw [if_pos c8] at h
          refine e_sw (t := 77) (o := 54) rfl (by decide) (xsw_n c5 (xsw_p c8)) rfl (xnm_no rfl) ?_
          refine e_aload_n rfl rfl rfl (xnm_no rfl) ?_
          obtain ⟨w9, hw10, h⟩ := xbd_some h
          refine e_cIV (hc := hw10) (rest := []) rfl rfl rfl rfl rfl rfl rfl rfl (xnm_no rfl) ?_
          cases h
          exact e_retI rfl rfl
        · rw [if_neg c8] at h
          by_cases c11 : v1 = 2
          · rw [if_pos c11] at h
            refine e_sw (t := 82) (o := 59) rfl (by decide) (xsw_n c5 (xsw_n c8 (xsw_p c11))) rfl (xnm_no rfl) ?_
            refine e_aload_n rfl rfl rfl (xnm_no rfl) ?_
            refine e_iconst (x := 0) rfl (by decide) (xnm_no rfl) ?_
            obtain ⟨w12, hw13, h⟩ := xbd_some h
            refine e_cIV (hc := hw13) (rest := []) rfl rfl rfl rfl rfl rfl rfl rfl (xnm_no rfl) ?_
            obtain ⟨w14, hw15, h⟩ := xbd_some h
            refine e_cIS (hc := hw15) (rest := []) rfl rfl rfl rfl rfl rfl rfl rfl (xnm_no rfl) ?_
            cases h
            exact e_retI rfl rfl
          · rw [if_neg c11] at h
            by_cases c16 : v1 = 3
            · rw [if_pos c16] at h
              refine e_sw (t := 91) (o := 68) rfl (by decide) (xsw_n c5 (xsw_n c8 (xsw_n c11 (xsw_p c16)))) rfl (xnm_no rfl) ?_
              refine e_aload_n rfl rfl rfl (xnm_no rfl) ?_
              refine e_iconst (x := 0) rfl (by decide) (xnm_no rfl) ?_
              obtain ⟨w17, hw18, h⟩ := xbd_some h
              refine e_cIV (hc := hw18) (rest := []) rfl rfl rfl rfl rfl rfl rfl rfl (xnm_no rfl) ?_
              cases h
              exact e_retI rfl rfl
            · rw [if_neg c16] at h
              by_cases c19 : v1 = 4
              · rw [if_pos c19] at h
                refine e_sw (t := 97) (o := 74) rfl (by decide) (xsw_n c5 (xsw_n c8 (xsw_n c11 (xsw_n c16 (xsw_p c19))))) rfl (xnm_no rfl) ?_
                refine e_aload_n rfl rfl rfl (xnm_no rfl) ?_
                refine e_iconst (x := 1) rfl (by decide) (xnm_no rfl) ?_
                obtain ⟨w20, hw21, h⟩ := xbd_some h
                refine e_cIV (hc := hw21) (rest := []) rfl rfl rfl rfl rfl rfl rfl rfl (xnm_no rfl) ?_
                obtain ⟨w22, hw23, h⟩ := xbd_some h
                refine e_cIS (hc := hw23) (rest := []) rfl rfl rfl rfl rfl rfl rfl rfl (xnm_no rfl) ?_
                cases h
                exact e_retI rfl rfl
              · rw [if_neg c19] at h
                by_cases c24 : v1 = 5
                · rw [if_pos c24] at h
                  refine e_sw (t := 106) (o := 83) rfl (by decide) (xsw_n c5 (xsw_n c8 (xsw_n c11 (xsw_n c16 (xsw_n c19 (xsw_p c24)))))) rfl (xnm_no rfl) ?_
                  refine e_aload_n rfl rfl rfl (xnm_no rfl) ?_
                  refine e_iconst (x := 1) rfl (by decide) (xnm_no rfl) ?_
                  obtain ⟨w25, hw26, h⟩ := xbd_some h
                  refine e_cIV (hc := hw26) (rest := []) rfl rfl rfl rfl rfl rfl rfl rfl (xnm_no rfl) ?_
                  cases h
                  exact e_retI rfl rfl
                · rw [if_neg c24] at h
                  by_cases c27 : v1 = 6
                  · rw [if_pos c27] at h
                    refine e_sw (t := 112) (o := 89) rfl (by decide) (xsw_n c5 (xsw_n c8 (xsw_n c11 (xsw_n c16 (xsw_n c19 (xsw_n c24 (xsw_p c27))))))) rfl (xnm_no rfl) ?_
                    refine e_aload_n rfl rfl rfl (xnm_no rfl) ?_
                    obtain ⟨w28, hw29, h⟩ := xbd_some h
                    refine e_cIV (hc := hw29) (rest := []) rfl rfl rfl rfl rfl rfl rfl rfl (xnm_no rfl) ?_
                    cases h
                    exact e_retI rfl rfl
                  · rw [if_neg c27] at h
                    by_cases c30 : v1 = 7
                    · rw [if_pos c30] at h
                      refine e_sw (t := 117) (o := 94) rfl (by decide) (xsw_n c5 (xsw_n c8 (xsw_n c11 (xsw_n c16 (xsw_n c19 (xsw_n c24 (xsw_n c27 (xsw_p c30)))))))) rfl (xnm_no rfl) ?_
                      refine e_aload_n rfl rfl rfl (xnm_no rfl) ?_
                      obtain ⟨w31, hw32, h⟩ := xbd_some h
                      refine e_cIV (hc := hw32) (rest := []) rfl rfl rfl rfl rfl rfl rfl rfl (xnm_no rfl) ?_
                      cases h
                      exact e_retI rfl rfl
                    · rw [if_neg c30] at h
                      by_cases c33 : v1 = 8
                      · rw [if_pos c33] at h
                        refine e_sw (t := 122) (o := 99) rfl (by decide) (xsw_n c5 (xsw_n c8 (xsw_n c11 (xsw_n c16 (xsw_n c19 (xsw_n c24 (xsw_n c27 (xsw_n c30 (xsw_p c33))))))))) rfl (xnm_no rfl) ?_
                        refine e_aload_n rfl rfl rfl (xnm_no rfl) ?_
                        obtain ⟨w34, hw35, h⟩ := xbd_some h
                        refine e_cIV (hc := hw35) (rest := []) rfl rfl rfl rfl rfl rfl rfl rfl (xnm_no rfl) ?_
                        cases h
                        exact e_retI rfl rfl
                      · rw [if_neg c33] at h
                        refine e_sw (t := 127) (o := 104) rfl (by decide) (xsw_n c5 (xsw_n c8 (xsw_n c11 (xsw_n c16 (xsw_n c19 (xsw_n c24 (xsw_n c27 (xsw_n c30 (xsw_n c33 xsw_d))))))))) rfl (xnm_no rfl) ?_
                        refine e_aload_n rfl rfl rfl (xnm_no rfl) ?_
                        obtain ⟨w36, hw37, h⟩ := xbd_some h
                        refine e_cIV (hc := hw37) (rest := []) rfl rfl rfl rfl rfl rfl rfl rfl (xnm_no rfl) ?_
                        cases h
                        exact e_retI rfl rfl
    · refine e_bipush (x := -2) rfl (by decide) (xnm_no rfl) ?_
      cases h
      exact e_retI rfl rfl
  · refine e_iconst (x := -1) rfl (by decide) (xnm_no rfl) ?_
    cases h
    exact e_retI rfl rfl
set_option maxRecDepth 4000 in
theorem fX10_groupOf_132_i (v1 : Int32) (m : xmm) {z : Int32 × xmm} (h : (xgd (xinb 8 v1) (some ((m.1 134 (v1).toNatClampNeg), m))) = some z) : fX10_groupOf_132 v1 m = some z := by
  refine xstI ?_
  show xT 109 0 0 [(0, .ref 132), (1, .int v1)] [] m (some (.int z.1), z.2)
  refine e_aload_n rfl rfl rfl (xnm_no rfl) ?_
  refine e_getR (r := 134) rfl rfl rfl rfl rfl (xnm_no rfl) ?_
  refine e_iload_n rfl rfl (xnm_no rfl) ?_
  obtain ⟨g1, h⟩ := xgd_some h
  refine e_iald rfl g1 (xnm_no rfl) ?_
  cases h
  exact e_retI rfl rfl
set_option maxRecDepth 4000 in
theorem fX11_chain_0_i (v1 : Int32) (m : xmm) {z : Int32 × xmm} (h : ((fX3_hasPost 10 v1 m).bind fun (w1 : Int32 × xmm) => if w1.1 = 0 then some ((-1 : Int32), w1.2) else (fX11_study_0 w1.2).bind fun (w3 : xmm) => (fX1_isOrdered_97 w3).bind fun (w5 : Int32 × xmm) => if w5.1 = 0 then some ((-2 : Int32), w5.2) else (fX10_share_132_10 w5.2).bind fun (w7 : Int32 × xmm) => (fX10_groupOf_132 v1 w7.2).bind fun (w9 : Int32 × xmm) => some (w9.1, w9.2)) = some z) : fX11_chain_0 v1 m = some z := by
  refine xstI ?_
  show xT 135 11 0 [(0, .ref 0), (1, .int v1)] [] m (some (.int z.1), z.2)
  refine e_aload_n rfl rfl rfl (xnm_no rfl) ?_
  refine e_getR (r := 10) rfl rfl rfl rfl rfl (xnm_no rfl) ?_
  refine e_iload_n rfl rfl (xnm_no rfl) ?_
  obtain ⟨w1, hw2, h⟩ := xbd_some h
  refine e_cIV (hc := hw2) (rest := []) rfl rfl rfl rfl rfl rfl rfl rfl (xnm_no rfl) ?_
  refine e_if_ne (t := 13) rfl rfl (xnm_no rfl) (xnm_no rfl) h (fun h => ?_) (fun h => ?_)
  · refine e_aload_n rfl rfl rfl (xnm_no rfl) ?_
    obtain ⟨w3, hw4, h⟩ := xbd_some h
    refine e_cVV (hc := hw4) (rest := []) rfl rfl rfl rfl rfl rfl rfl rfl (xnm_no rfl) ?_
    refine e_aload_n rfl rfl rfl (xnm_no rfl) ?_
    refine e_getR (r := 97) rfl rfl rfl rfl rfl (xnm_no rfl) ?_
    obtain ⟨w5, hw6, h⟩ := xbd_some h
    refine e_cIV (hc := hw6) (rest := []) rfl rfl rfl rfl rfl rfl rfl rfl (xnm_no rfl) ?_
    refine e_if_ne (t := 30) rfl rfl (xnm_no rfl) (xnm_no rfl) h (fun h => ?_) (fun h => ?_)
    · refine e_aload_n rfl rfl rfl (xnm_no rfl) ?_
      refine e_getR (r := 132) rfl rfl rfl rfl rfl (xnm_no rfl) ?_
      refine e_aload_n rfl rfl rfl (xnm_no rfl) ?_
      refine e_getR (r := 10) rfl rfl rfl rfl rfl (xnm_no rfl) ?_
      obtain ⟨w7, hw8, h⟩ := xbd_some h
      refine e_cIV (hc := hw8) (rest := []) rfl rfl rfl rfl rfl rfl rfl rfl (xnm_no rfl) ?_
      refine e_pop rfl rfl (xnm_no rfl) ?_
      refine e_aload_n rfl rfl rfl (xnm_no rfl) ?_
      refine e_getR (r := 132) rfl rfl rfl rfl rfl (xnm_no rfl) ?_
      refine e_iload_n rfl rfl (xnm_no rfl) ?_
      obtain ⟨w9, hw10, h⟩ := xbd_some h
      refine e_cIV (hc := hw10) (rest := []) rfl rfl rfl rfl rfl rfl rfl rfl (xnm_no rfl) ?_
      cases h
      exact e_retI rfl rfl
    · refine e_bipush (x := -2) rfl (by decide) (xnm_no rfl) ?_
      cases h
      exact e_retI rfl rfl
  · refine e_iconst (x := -1) rfl (by decide) (xnm_no rfl) ?_
    cases h
    exact e_retI rfl rfl
set_option maxRecDepth 4000 in
theorem fX12_laysChains_144_i (v1 : Int32) (m : xmm) {z : xmm} (h : (bX12_laysChains_144_2 v1 (0 : Int32) m) = some z) : fX12_laysChains_144 v1 m = some z := by
  refine xstV ?_
  show xT 249 2 0 [(0, .ref 144), (1, .int v1)] [] m (none, z)
  refine e_iconst (x := 0) rfl (by decide) (xnm_no rfl) ?_
  refine e_istore_n rfl rfl rfl ?_
  exact xlfV h
set_option maxRecDepth 4000 in
theorem bX12_laysChains_144_2_i (v1 : Int32) (v2 : Int32) (m : xmm) {z : xmm} (h : (if v1 ≤ v2 then xlt (xwi m 180 0 (-1 : Int32)) fun (m1 : xmm) => bX12_laysChains_144_29 v1 (0 : Int32) m1 else xgd (xinb 8 v2) (xlt (xwi m 181 (v2).toNatClampNeg (0 : Int32)) fun (m3 : xmm) => bX12_laysChains_144_2 v1 (v2 + (1 : Int32)) m3)) = some z) : bX12_laysChains_144_2 v1 v2 m = some z := by
  refine xstV ?_
  show xT 249 2 2 [(0, .ref 144), (1, .int v1), (2, .int v2)] [] m (none, z)
  refine e_iload_n rfl rfl (xnm_no rfl) ?_
  refine e_iload_n rfl rfl (xnm_no rfl) ?_
  refine e_icmp_ge (t := 20) rfl rfl (xnm_no rfl) (xnm_no rfl) h (fun h => ?_) (fun h => ?_)
  · refine e_iconst (x := 0) rfl (by decide) (xnm_no rfl) ?_
    refine e_istore_n rfl rfl (xnm_no rfl) ?_
    refine e_aload_n rfl rfl rfl (xnm_no rfl) ?_
    refine e_getR (r := 180) rfl rfl rfl rfl rfl (xnm_no rfl) ?_
    refine e_iconst (x := 0) rfl (by decide) (xnm_no rfl) ?_
    refine e_iconst (x := -1) rfl (by decide) (xnm_no rfl) ?_
    refine e_iast rfl (by decide) rfl ?_
    replace h := xlt_b h
    exact xlfV h
  · refine e_aload_n rfl rfl rfl (xnm_no rfl) ?_
    refine e_getR (r := 181) rfl rfl rfl rfl rfl (xnm_no rfl) ?_
    refine e_iload_n rfl rfl (xnm_no rfl) ?_
    refine e_iconst (x := 0) rfl (by decide) (xnm_no rfl) ?_
    obtain ⟨g2, h⟩ := xgd_some h
    refine e_iast rfl g2 (xnm_no rfl) ?_
    replace h := xlt_b h
    refine e_iinc (y := 1) rfl rfl rfl (by decide) (xnm_no rfl) ?_
    refine e_goto (t := 2) rfl rfl rfl ?_
    exact xlfV h
set_option maxRecDepth 4000 in
theorem bX12_laysChains_144_29_i (v1 : Int32) (v2 : Int32) (m : xmm) {z : xmm} (h : (if (m.1 144 17) ≤ v2 then some m else xgd (xinb 8 v2) (if (m.1 180 (v2).toNatClampNeg) < 0 then bX12_laysChains_144_63 v1 v2 m else xgd (xinb 8 (m.1 180 (v2).toNatClampNeg)) (xlt (xwi m 181 ((m.1 180 (v2).toNatClampNeg)).toNatClampNeg ((m.1 181 ((m.1 180 (v2).toNatClampNeg)).toNatClampNeg) ^^^ ((1 : Int32) <<< (v2 &&& 31)))) fun (m3 : xmm) => bX12_laysChains_144_63 v1 v2 m3))) = some z) : bX12_laysChains_144_29 v1 v2 m = some z := by
  refine xstV ?_
  show xT 249 2 29 [(0, .ref 144), (1, .int v1), (2, .int v2)] [] m (none, z)
  refine e_iload_n rfl rfl (xnm_no rfl) ?_
  refine e_aload_n rfl rfl rfl (xnm_no rfl) ?_
  refine e_getI rfl rfl rfl rfl (xnm_no rfl) ?_
  refine e_icmp_ge (t := 179) rfl rfl (xnm_no rfl) (xnm_no rfl) h (fun h => ?_) (fun h => ?_)
  · cases h
    exact e_retV rfl rfl
  · refine e_aload_n rfl rfl rfl (xnm_no rfl) ?_
    refine e_getR (r := 180) rfl rfl rfl rfl rfl (xnm_no rfl) ?_
    refine e_iload_n rfl rfl (xnm_no rfl) ?_
    obtain ⟨g1, h⟩ := xgd_some h
    refine e_iald rfl g1 (xnm_no rfl) ?_
    refine e_if_lt (t := 63) rfl rfl rfl (xnm_no rfl) h (fun h => ?_) (fun h => ?_)
    · exact xlfV h
    · refine e_aload_n rfl rfl rfl (xnm_no rfl) ?_
      refine e_getR (r := 181) rfl rfl rfl rfl rfl (xnm_no rfl) ?_
      refine e_aload_n rfl rfl rfl (xnm_no rfl) ?_
      refine e_getR (r := 180) rfl rfl rfl rfl rfl (xnm_no rfl) ?_
      refine e_iload_n rfl rfl (xnm_no rfl) ?_
      refine e_iald rfl g1 (xnm_no rfl) ?_
      refine e_dup2 rfl rfl rfl (xnm_no rfl) ?_
      obtain ⟨g2, h⟩ := xgd_some h
      refine e_iald rfl g2 (xnm_no rfl) ?_
      refine e_iconst (x := 1) rfl (by decide) (xnm_no rfl) ?_
      refine e_iload_n rfl rfl (xnm_no rfl) ?_
      refine e_ishl rfl (xnm_no rfl) ?_
      refine e_ixor rfl (xnm_no rfl) ?_
      refine e_iast rfl g2 rfl ?_
      replace h := xlt_b h
      exact xlfV h
set_option maxRecDepth 4000 in
theorem bX12_laysChains_144_63_i (v1 : Int32) (v2 : Int32) (m : xmm) {z : xmm} (h : (xgd (xinb 8 v2) (xlt (xwi m 180 (v2).toNatClampNeg ((m.1 180 (v2).toNatClampNeg) + (1 : Int32))) fun (m2 : xmm) => bX12_laysChains_144_73 v1 v2 m2)) = some z) : bX12_laysChains_144_63 v1 v2 m = some z := by
  refine xstV ?_
  show xT 249 2 63 [(0, .ref 144), (1, .int v1), (2, .int v2)] [] m (none, z)
  refine e_aload_n rfl rfl rfl (xnm_no rfl) ?_
  refine e_getR (r := 180) rfl rfl rfl rfl rfl (xnm_no rfl) ?_
  refine e_iload_n rfl rfl (xnm_no rfl) ?_
  refine e_dup2 rfl rfl rfl (xnm_no rfl) ?_
  obtain ⟨g1, h⟩ := xgd_some h
  refine e_iald rfl g1 (xnm_no rfl) ?_
  refine e_iconst (x := 1) rfl (by decide) (xnm_no rfl) ?_
  refine e_iadd rfl (xnm_no rfl) ?_
  refine e_iast rfl g1 rfl ?_
  replace h := xlt_b h
  exact xlfV h
set_option maxRecDepth 4000 in
theorem bX12_laysChains_144_73_i (v1 : Int32) (v2 : Int32) (m : xmm) {z : xmm} (h : (xgd (xinb 8 v2) (if v1 ≤ (m.1 180 (v2).toNatClampNeg) then bX12_laysChains_144_118 v1 v2 m else xgd (xinb 8 (m.1 180 (v2).toNatClampNeg)) ((fX12_isChain_144 ((m.1 181 ((m.1 180 (v2).toNatClampNeg)).toNatClampNeg) ||| ((1 : Int32) <<< (v2 &&& 31))) m).bind fun (w3 : Int32 × xmm) => if w3.1 = 0 then xlt (xwi w3.2 180 (v2).toNatClampNeg ((w3.2.1 180 (v2).toNatClampNeg) + (1 : Int32))) fun (m5 : xmm) => bX12_laysChains_144_73 v1 v2 m5 else bX12_laysChains_144_118 v1 v2 w3.2))) = some z) : bX12_laysChains_144_73 v1 v2 m = some z := by
  refine xstV ?_
  show xT 249 2 73 [(0, .ref 144), (1, .int v1), (2, .int v2)] [] m (none, z)
  refine e_aload_n rfl rfl rfl (xnm_no rfl) ?_
  refine e_getR (r := 180) rfl rfl rfl rfl rfl (xnm_no rfl) ?_
  refine e_iload_n rfl rfl (xnm_no rfl) ?_
  obtain ⟨g1, h⟩ := xgd_some h
  refine e_iald rfl g1 (xnm_no rfl) ?_
  refine e_iload_n rfl rfl (xnm_no rfl) ?_
  refine e_icmp_ge (t := 118) rfl rfl rfl (xnm_no rfl) h (fun h => ?_) (fun h => ?_)
  · exact xlfV h
  · refine e_aload_n rfl rfl rfl (xnm_no rfl) ?_
    refine e_aload_n rfl rfl rfl (xnm_no rfl) ?_
    refine e_getR (r := 181) rfl rfl rfl rfl rfl (xnm_no rfl) ?_
    refine e_aload_n rfl rfl rfl (xnm_no rfl) ?_
    refine e_getR (r := 180) rfl rfl rfl rfl rfl (xnm_no rfl) ?_
    refine e_iload_n rfl rfl (xnm_no rfl) ?_
    refine e_iald rfl g1 (xnm_no rfl) ?_
    obtain ⟨g2, h⟩ := xgd_some h
    refine e_iald rfl g2 (xnm_no rfl) ?_
    refine e_iconst (x := 1) rfl (by decide) (xnm_no rfl) ?_
    refine e_iload_n rfl rfl (xnm_no rfl) ?_
    refine e_ishl rfl (xnm_no rfl) ?_
    refine e_ior rfl (xnm_no rfl) ?_
    obtain ⟨w3, hw4, h⟩ := xbd_some h
    refine e_cIV (hc := hw4) (rest := []) rfl rfl rfl rfl rfl rfl rfl rfl (xnm_no rfl) ?_
    refine e_if_ne (t := 118) rfl rfl rfl (xnm_no rfl) h (fun h => ?_) (fun h => ?_)
    · exact xlfV h
    · refine e_aload_n rfl rfl rfl (xnm_no rfl) ?_
      refine e_getR (r := 180) rfl rfl rfl rfl rfl (xnm_no rfl) ?_
      refine e_iload_n rfl rfl (xnm_no rfl) ?_
      refine e_dup2 rfl rfl rfl (xnm_no rfl) ?_
      refine e_iald rfl g1 (xnm_no rfl) ?_
      refine e_iconst (x := 1) rfl (by decide) (xnm_no rfl) ?_
      refine e_iadd rfl (xnm_no rfl) ?_
      refine e_iast rfl g1 (xnm_no rfl) ?_
      replace h := xlt_b h
      refine e_goto (t := 73) rfl rfl rfl ?_
      exact xlfV h
set_option maxRecDepth 4000 in
theorem bX12_laysChains_144_118_i (v1 : Int32) (v2 : Int32) (m : xmm) {z : xmm} (h : (xgd (xinb 8 v2) (if (m.1 180 (v2).toNatClampNeg) = v1 then xlt (xwi m 180 (v2).toNatClampNeg (-1 : Int32)) fun (m6 : xmm) => bX12_laysChains_144_29 v1 (v2 + (-1 : Int32)) m6 else xgd (xinb 8 (m.1 180 (v2).toNatClampNeg)) (xlt (xwi m 181 ((m.1 180 (v2).toNatClampNeg)).toNatClampNeg ((m.1 181 ((m.1 180 (v2).toNatClampNeg)).toNatClampNeg) ||| ((1 : Int32) <<< (v2 &&& 31)))) fun (m3 : xmm) => if (m3.1 144 17) ≤ (v2 + (1 : Int32)) then bX12_laysChains_144_29 v1 (v2 + (1 : Int32)) m3 else xgd (xinb 8 (v2 + (1 : Int32))) (xlt (xwi m3 180 ((v2 + (1 : Int32))).toNatClampNeg (-1 : Int32)) fun (m5 : xmm) => bX12_laysChains_144_29 v1 (v2 + (1 : Int32)) m5)))) = some z) : bX12_laysChains_144_118 v1 v2 m = some z := by
  refine xstV ?_
  show xT 249 2 118 [(0, .ref 144), (1, .int v1), (2, .int v2)] [] m (none, z)
  refine e_aload_n rfl rfl rfl (xnm_no rfl) ?_
  refine e_getR (r := 180) rfl rfl rfl rfl rfl (xnm_no rfl) ?_
  refine e_iload_n rfl rfl (xnm_no rfl) ?_
  obtain ⟨g1, h⟩ := xgd_some h
  refine e_iald rfl g1 (xnm_no rfl) ?_
  refine e_iload_n rfl rfl (xnm_no rfl) ?_
  refine e_icmp_ne (t := 141) rfl rfl (xnm_no rfl) (xnm_no rfl) h (fun h => ?_) (fun h => ?_)
  · refine e_aload_n rfl rfl rfl (xnm_no rfl) ?_
    refine e_getR (r := 181) rfl rfl rfl rfl rfl (xnm_no rfl) ?_
    refine e_aload_n rfl rfl rfl (xnm_no rfl) ?_
    refine e_getR (r := 180) rfl rfl rfl rfl rfl (xnm_no rfl) ?_
    refine e_iload_n rfl rfl (xnm_no rfl) ?_
    refine e_iald rfl g1 (xnm_no rfl) ?_
    refine e_dup2 rfl rfl rfl (xnm_no rfl) ?_
    obtain ⟨g2, h⟩ := xgd_some h
    refine e_iald rfl g2 (xnm_no rfl) ?_
    refine e_iconst (x := 1) rfl (by decide) (xnm_no rfl) ?_
    refine e_iload_n rfl rfl (xnm_no rfl) ?_
    refine e_ishl rfl (xnm_no rfl) ?_
    refine e_ior rfl (xnm_no rfl) ?_
    refine e_iast rfl g2 (xnm_no rfl) ?_
    replace h := xlt_b h
    refine e_iinc (y := 1) rfl rfl rfl (by decide) (xnm_no rfl) ?_
    refine e_iload_n rfl rfl (xnm_no rfl) ?_
    refine e_aload_n rfl rfl rfl (xnm_no rfl) ?_
    refine e_getI rfl rfl rfl rfl (xnm_no rfl) ?_
    refine e_icmp_ge (t := 29) rfl rfl rfl (xnm_no rfl) h (fun h => ?_) (fun h => ?_)
    · exact xlfV h
    · refine e_aload_n rfl rfl rfl (xnm_no rfl) ?_
      refine e_getR (r := 180) rfl rfl rfl rfl rfl (xnm_no rfl) ?_
      refine e_iload_n rfl rfl (xnm_no rfl) ?_
      refine e_iconst (x := -1) rfl (by decide) (xnm_no rfl) ?_
      obtain ⟨g4, h⟩ := xgd_some h
      refine e_iast rfl g4 (xnm_no rfl) ?_
      replace h := xlt_b h
      refine e_goto (t := 29) rfl rfl rfl ?_
      exact xlfV h
  · refine e_aload_n rfl rfl rfl (xnm_no rfl) ?_
    refine e_getR (r := 180) rfl rfl rfl rfl rfl (xnm_no rfl) ?_
    refine e_iload_n rfl rfl (xnm_no rfl) ?_
    refine e_iconst (x := -1) rfl (by decide) (xnm_no rfl) ?_
    refine e_iast rfl g1 (xnm_no rfl) ?_
    replace h := xlt_b h
    refine e_iinc (y := -1) rfl rfl rfl (by decide) (xnm_no rfl) ?_
    refine e_goto (t := 29) rfl rfl rfl ?_
    exact xlfV h
set_option maxRecDepth 4000 in
theorem fX12_chain_144_i (v1 : Int32) (m : xmm) {z : Int32 × xmm} (h : ((fX12_isPost_144 v1 m).bind fun (w1 : Int32 × xmm) => if w1.1 = 0 then some ((-1 : Int32), w1.2) else (fX12_isOrdered_144 152 w1.2).bind fun (w3 : Int32 × xmm) => if w3.1 = 0 then some ((-2 : Int32), w3.2) else (fX12_fewestChains_144 w3.2).bind fun (w5 : Int32 × xmm) => (fX12_laysChains_144 w5.1 w5.2).bind fun (w7 : xmm) => xgd (xinb 8 v1) (some ((w7.1 180 (v1).toNatClampNeg), w7))) = some z) : fX12_chain_144 v1 m = some z := by
  refine xstI ?_
  show xT 250 6 0 [(0, .ref 144), (1, .int v1)] [] m (some (.int z.1), z.2)
  refine e_aload_n rfl rfl rfl (xnm_no rfl) ?_
  refine e_iload_n rfl rfl (xnm_no rfl) ?_
  obtain ⟨w1, hw2, h⟩ := xbd_some h
  refine e_cIV (hc := hw2) (rest := []) rfl rfl rfl rfl rfl rfl rfl rfl (xnm_no rfl) ?_
  refine e_if_ne (t := 10) rfl rfl (xnm_no rfl) (xnm_no rfl) h (fun h => ?_) (fun h => ?_)
  · refine e_aload_n rfl rfl rfl (xnm_no rfl) ?_
    refine e_aload_n rfl rfl rfl (xnm_no rfl) ?_
    refine e_getR (r := 152) rfl rfl rfl rfl rfl (xnm_no rfl) ?_
    obtain ⟨w3, hw4, h⟩ := xbd_some h
    refine e_cIV (hc := hw4) (rest := []) rfl rfl rfl rfl rfl rfl rfl rfl (xnm_no rfl) ?_
    refine e_if_ne (t := 24) rfl rfl (xnm_no rfl) (xnm_no rfl) h (fun h => ?_) (fun h => ?_)
    · refine e_aload_n rfl rfl rfl (xnm_no rfl) ?_
      refine e_aload_n rfl rfl rfl (xnm_no rfl) ?_
      obtain ⟨w5, hw6, h⟩ := xbd_some h
      refine e_cIV (hc := hw6) (rest := [.ref 144]) rfl rfl rfl rfl rfl rfl rfl rfl (xnm_no rfl) ?_
      obtain ⟨w7, hw8, h⟩ := xbd_some h
      refine e_cVV (hc := hw8) (rest := []) rfl rfl rfl rfl rfl rfl rfl rfl (xnm_no rfl) ?_
      refine e_aload_n rfl rfl rfl (xnm_no rfl) ?_
      refine e_getR (r := 180) rfl rfl rfl rfl rfl (xnm_no rfl) ?_
      refine e_iload_n rfl rfl (xnm_no rfl) ?_
      obtain ⟨g9, h⟩ := xgd_some h
      refine e_iald rfl g9 (xnm_no rfl) ?_
      cases h
      exact e_retI rfl rfl
    · refine e_bipush (x := -2) rfl (by decide) (xnm_no rfl) ?_
      cases h
      exact e_retI rfl rfl
  · refine e_iconst (x := -1) rfl (by decide) (xnm_no rfl) ?_
    cases h
    exact e_retI rfl rfl
set_option maxRecDepth 4000 in
theorem fX11_straight_0_i (v1 : Int32) (v2 : Int32) (m : xmm) {z : Int32 × xmm} (h : (if v1 < 0 then some ((-1 : Int32), m) else (fX3_hasPost 10 v2 m).bind fun (w1 : Int32 × xmm) => if w1.1 = 0 then some ((-1 : Int32), w1.2) else (fX11_study_0 w1.2).bind fun (w3 : xmm) => (fX1_isOrdered_97 w3).bind fun (w5 : Int32 × xmm) => if w5.1 = 0 then some ((-2 : Int32), w5.2) else (fX5_straightAt_123 v1 v2 w5.2).bind fun (w7 : Int32 × xmm) => some (w7.1, w7.2)) = some z) : fX11_straight_0 v1 v2 m = some z := by
  refine xstI ?_
  show xT 136 6 0 [(0, .ref 0), (1, .int v1), (2, .int v2)] [] m (some (.int z.1), z.2)
  refine e_iload_n rfl rfl (xnm_no rfl) ?_
  refine e_if_lt (t := 15) rfl rfl (xnm_no rfl) (xnm_no rfl) h (fun h => ?_) (fun h => ?_)
  · refine e_iconst (x := -1) rfl (by decide) (xnm_no rfl) ?_
    cases h
    exact e_retI rfl rfl
  · refine e_aload_n rfl rfl rfl (xnm_no rfl) ?_
    refine e_getR (r := 10) rfl rfl rfl rfl rfl (xnm_no rfl) ?_
    refine e_iload_n rfl rfl (xnm_no rfl) ?_
    obtain ⟨w1, hw2, h⟩ := xbd_some h
    refine e_cIV (hc := hw2) (rest := []) rfl rfl rfl rfl rfl rfl rfl rfl (xnm_no rfl) ?_
    refine e_if_ne (t := 17) rfl rfl (xnm_no rfl) (xnm_no rfl) h (fun h => ?_) (fun h => ?_)
    · refine e_aload_n rfl rfl rfl (xnm_no rfl) ?_
      obtain ⟨w3, hw4, h⟩ := xbd_some h
      refine e_cVV (hc := hw4) (rest := []) rfl rfl rfl rfl rfl rfl rfl rfl (xnm_no rfl) ?_
      refine e_aload_n rfl rfl rfl (xnm_no rfl) ?_
      refine e_getR (r := 97) rfl rfl rfl rfl rfl (xnm_no rfl) ?_
      obtain ⟨w5, hw6, h⟩ := xbd_some h
      refine e_cIV (hc := hw6) (rest := []) rfl rfl rfl rfl rfl rfl rfl rfl (xnm_no rfl) ?_
      refine e_if_eq (t := 43) rfl rfl (xnm_no rfl) (xnm_no rfl) h (fun h => ?_) (fun h => ?_)
      · refine e_bipush (x := -2) rfl (by decide) (xnm_no rfl) ?_
        cases h
        exact e_retI rfl rfl
      · refine e_aload_n rfl rfl rfl (xnm_no rfl) ?_
        refine e_getR (r := 123) rfl rfl rfl rfl rfl (xnm_no rfl) ?_
        refine e_iload_n rfl rfl (xnm_no rfl) ?_
        refine e_iload_n rfl rfl (xnm_no rfl) ?_
        obtain ⟨w7, hw8, h⟩ := xbd_some h
        refine e_cIV (hc := hw8) (rest := []) rfl rfl rfl rfl rfl rfl rfl rfl (xnm_no rfl) ?_
        refine e_goto (t := 45) rfl rfl (xnm_no rfl) ?_
        cases h
        exact e_retI rfl rfl
    · refine e_iconst (x := -1) rfl (by decide) (xnm_no rfl) ?_
      cases h
      exact e_retI rfl rfl
set_option maxRecDepth 4000 in
theorem fX12_waysBehind_144_i (v1 : Int32) (m : xmm) {z : Int32 × xmm} (h : (bX12_waysBehind_144_9 v1 (((1 : Int32) <<< ((m.1 144 17) &&& 31)) - (1 : Int32)) m) = some z) : fX12_waysBehind_144 v1 m = some z := by
  refine xstI ?_
  show xT 233 1 0 [(0, .ref 144), (1, .int v1)] [] m (some (.int z.1), z.2)
  refine e_iconst (x := 1) rfl (by decide) (xnm_no rfl) ?_
  refine e_aload_n rfl rfl rfl (xnm_no rfl) ?_
  refine e_getI rfl rfl rfl rfl (xnm_no rfl) ?_
  refine e_ishl rfl (xnm_no rfl) ?_
  refine e_iconst (x := 1) rfl (by decide) (xnm_no rfl) ?_
  refine e_isub rfl (xnm_no rfl) ?_
  refine e_istore_n rfl rfl rfl ?_
  exact xlfI h
set_option maxRecDepth 4000 in
theorem bX12_waysBehind_144_9_i (v1 : Int32) (v2 : Int32) (m : xmm) {z : Int32 × xmm} (h : (if v2 < 0 then xgd (xinb 256 v1) (some ((m.1 175 (v1).toNatClampNeg), m)) else if (v2 &&& v1) = v1 then if v2 = (((1 : Int32) <<< ((m.1 144 17) &&& 31)) - (1 : Int32)) then xgd (xinb 256 v2) (xlt (xwi m 175 (v2).toNatClampNeg (1 : Int32)) fun (m5 : xmm) => bX12_waysBehind_144_48 v1 v2 (0 : Int32) m5) else xgd (xinb 256 v2) (xlt (xwi m 175 (v2).toNatClampNeg (0 : Int32)) fun (m3 : xmm) => bX12_waysBehind_144_48 v1 v2 (0 : Int32) m3) else bX12_waysBehind_144_9 v1 (v2 + (-1 : Int32)) m) = some z) : bX12_waysBehind_144_9 v1 v2 m = some z := by
  refine xstI ?_
  show xT 233 1 9 [(0, .ref 144), (1, .int v1), (2, .int v2)] [] m (some (.int z.1), z.2)
  refine e_iload_n rfl rfl (xnm_no rfl) ?_
  refine e_if_lt (t := 108) rfl rfl (xnm_no rfl) (xnm_no rfl) h (fun h => ?_) (fun h => ?_)
  · refine e_aload_n rfl rfl rfl (xnm_no rfl) ?_
    refine e_getR (r := 175) rfl rfl rfl rfl rfl (xnm_no rfl) ?_
    refine e_iload_n rfl rfl (xnm_no rfl) ?_
    obtain ⟨g1, h⟩ := xgd_some h
    refine e_iald rfl g1 (xnm_no rfl) ?_
    cases h
    exact e_retI rfl rfl
  · refine e_iload_n rfl rfl (xnm_no rfl) ?_
    refine e_iload_n rfl rfl (xnm_no rfl) ?_
    refine e_iand rfl (xnm_no rfl) ?_
    refine e_iload_n rfl rfl (xnm_no rfl) ?_
    refine e_icmp_eq (t := 23) rfl rfl (xnm_no rfl) (xnm_no rfl) h (fun h => ?_) (fun h => ?_)
    · refine e_aload_n rfl rfl rfl (xnm_no rfl) ?_
      refine e_getR (r := 175) rfl rfl rfl rfl rfl (xnm_no rfl) ?_
      refine e_iload_n rfl rfl (xnm_no rfl) ?_
      refine e_iload_n rfl rfl (xnm_no rfl) ?_
      refine e_iconst (x := 1) rfl (by decide) (xnm_no rfl) ?_
      refine e_aload_n rfl rfl rfl (xnm_no rfl) ?_
      refine e_getI rfl rfl rfl rfl (xnm_no rfl) ?_
      refine e_ishl rfl (xnm_no rfl) ?_
      refine e_iconst (x := 1) rfl (by decide) (xnm_no rfl) ?_
      refine e_isub rfl (xnm_no rfl) ?_
      refine e_icmp_ne (t := 44) rfl rfl (xnm_no rfl) (xnm_no rfl) h (fun h => ?_) (fun h => ?_)
      · refine e_iconst (x := 0) rfl (by decide) (xnm_no rfl) ?_
        obtain ⟨g2, h⟩ := xgd_some h
        refine e_iast rfl g2 (xnm_no rfl) ?_
        replace h := xlt_b h
        refine e_iconst (x := 0) rfl (by decide) (xnm_no rfl) ?_
        refine e_istore_n rfl rfl rfl ?_
        exact xlfI h
      · refine e_iconst (x := 1) rfl (by decide) (xnm_no rfl) ?_
        refine e_goto (t := 45) rfl rfl (xnm_no rfl) ?_
        obtain ⟨g4, h⟩ := xgd_some h
        refine e_iast rfl g4 (xnm_no rfl) ?_
        replace h := xlt_b h
        refine e_iconst (x := 0) rfl (by decide) (xnm_no rfl) ?_
        refine e_istore_n rfl rfl rfl ?_
        exact xlfI h
    · refine e_goto (t := 102) rfl rfl (xnm_no rfl) ?_
      refine e_iinc (y := -1) rfl rfl rfl (by decide) (xnm_no rfl) ?_
      refine e_goto (t := 9) rfl rfl rfl ?_
      exact xlfI h
set_option maxRecDepth 4000 in
theorem bX12_waysBehind_144_48_i (v1 : Int32) (v2 : Int32) (v3 : Int32) (m : xmm) {z : Int32 × xmm} (h : (if (m.1 144 17) ≤ v3 then bX12_waysBehind_144_9 v1 (v2 + (-1 : Int32)) m else (fX12_has v2 v3 m).bind fun (w1 : Int32 × xmm) => if w1.1 = 0 then xgd (xinb 8 v3) (if ((w1.2.1 165 (v3).toNatClampNeg) &&& (v2 ^^^ (-1 : Int32))) = 0 then xgd (xinb 256 v2) (xgd (xinb 256 (v2 ||| ((1 : Int32) <<< (v3 &&& 31)))) (xlt (xwi w1.2 175 (v2).toNatClampNeg ((w1.2.1 175 (v2).toNatClampNeg) + (w1.2.1 175 ((v2 ||| ((1 : Int32) <<< (v3 &&& 31)))).toNatClampNeg))) fun (m6 : xmm) => bX12_waysBehind_144_48 v1 v2 (v3 + (1 : Int32)) m6)) else bX12_waysBehind_144_48 v1 v2 (v3 + (1 : Int32)) w1.2) else bX12_waysBehind_144_48 v1 v2 (v3 + (1 : Int32)) w1.2) = some z) : bX12_waysBehind_144_48 v1 v2 v3 m = some z := by
  refine xstI ?_
  show xT 233 1 48 [(0, .ref 144), (1, .int v1), (2, .int v2), (3, .int v3)] [] m (some (.int z.1), z.2)
  refine e_iload_n rfl rfl (xnm_no rfl) ?_
  refine e_aload_n rfl rfl rfl (xnm_no rfl) ?_
  refine e_getI rfl rfl rfl rfl (xnm_no rfl) ?_
  refine e_icmp_ge (t := 102) rfl rfl (xnm_no rfl) (xnm_no rfl) h (fun h => ?_) (fun h => ?_)
  · refine e_iinc (y := -1) rfl rfl rfl (by decide) (xnm_no rfl) ?_
    refine e_goto (t := 9) rfl rfl rfl ?_
    exact xlfI h
  · refine e_iload_n rfl rfl (xnm_no rfl) ?_
    refine e_iload_n rfl rfl (xnm_no rfl) ?_
    obtain ⟨w1, hw2, h⟩ := xbd_some h
    refine e_cIS (hc := hw2) (rest := []) rfl rfl rfl rfl rfl rfl rfl rfl (xnm_no rfl) ?_
    refine e_if_ne (t := 96) rfl rfl (xnm_no rfl) (xnm_no rfl) h (fun h => ?_) (fun h => ?_)
    · refine e_iinc (y := 1) rfl rfl rfl (by decide) (xnm_no rfl) ?_
      refine e_goto (t := 48) rfl rfl rfl ?_
      exact xlfI h
    · refine e_aload_n rfl rfl rfl (xnm_no rfl) ?_
      refine e_getR (r := 165) rfl rfl rfl rfl rfl (xnm_no rfl) ?_
      refine e_iload_n rfl rfl (xnm_no rfl) ?_
      obtain ⟨g3, h⟩ := xgd_some h
      refine e_iald rfl g3 (xnm_no rfl) ?_
      refine e_iload_n rfl rfl (xnm_no rfl) ?_
      refine e_iconst (x := -1) rfl (by decide) (xnm_no rfl) ?_
      refine e_ixor rfl (xnm_no rfl) ?_
      refine e_iand rfl (xnm_no rfl) ?_
      refine e_if_ne (t := 96) rfl rfl (xnm_no rfl) (xnm_no rfl) h (fun h => ?_) (fun h => ?_)
      · refine e_iinc (y := 1) rfl rfl rfl (by decide) (xnm_no rfl) ?_
        refine e_goto (t := 48) rfl rfl rfl ?_
        exact xlfI h
      · refine e_aload_n rfl rfl rfl (xnm_no rfl) ?_
        refine e_getR (r := 175) rfl rfl rfl rfl rfl (xnm_no rfl) ?_
        refine e_iload_n rfl rfl (xnm_no rfl) ?_
        refine e_dup2 rfl rfl rfl (xnm_no rfl) ?_
        obtain ⟨g4, h⟩ := xgd_some h
        refine e_iald rfl g4 (xnm_no rfl) ?_
        refine e_aload_n rfl rfl rfl (xnm_no rfl) ?_
        refine e_getR (r := 175) rfl rfl rfl rfl rfl (xnm_no rfl) ?_
        refine e_iload_n rfl rfl (xnm_no rfl) ?_
        refine e_iconst (x := 1) rfl (by decide) (xnm_no rfl) ?_
        refine e_iload_n rfl rfl (xnm_no rfl) ?_
        refine e_ishl rfl (xnm_no rfl) ?_
        refine e_ior rfl (xnm_no rfl) ?_
        obtain ⟨g5, h⟩ := xgd_some h
        refine e_iald rfl g5 (xnm_no rfl) ?_
        refine e_iadd rfl (xnm_no rfl) ?_
        refine e_iast rfl g4 (xnm_no rfl) ?_
        replace h := xlt_b h
        refine e_iinc (y := 1) rfl rfl rfl (by decide) (xnm_no rfl) ?_
        refine e_goto (t := 48) rfl rfl rfl ?_
        exact xlfI h
set_option maxRecDepth 4000 in
theorem fX12_straight_144_i (v1 : Int32) (v2 : Int32) (m : xmm) {z : Int32 × xmm} (h : (if v1 < 0 then some ((-1 : Int32), m) else (fX12_isPost_144 v2 m).bind fun (w1 : Int32 × xmm) => if w1.1 = 0 then some ((-1 : Int32), w1.2) else (fX12_isArrowed_144 w1.2).bind fun (w3 : Int32 × xmm) => if w3.1 = 0 then some ((-2 : Int32), w3.2) else (fX12_straights_144 w3.2).bind fun (w5 : Int32 × xmm) => if v1 < w5.1 then bX12_straight_144_48 v2 v1 (0 : Int32) (-1 : Int32) (0 : Int32) w5.2 else some ((-1 : Int32), w5.2)) = some z) : fX12_straight_144 v1 v2 m = some z := by
  refine xstI ?_
  show xT 232 7 0 [(0, .ref 144), (1, .int v1), (2, .int v2)] [] m (some (.int z.1), z.2)
  refine e_iload_n rfl rfl (xnm_no rfl) ?_
  refine e_if_lt (t := 12) rfl rfl (xnm_no rfl) (xnm_no rfl) h (fun h => ?_) (fun h => ?_)
  · refine e_iconst (x := -1) rfl (by decide) (xnm_no rfl) ?_
    cases h
    exact e_retI rfl rfl
  · refine e_aload_n rfl rfl rfl (xnm_no rfl) ?_
    refine e_iload_n rfl rfl (xnm_no rfl) ?_
    obtain ⟨w1, hw2, h⟩ := xbd_some h
    refine e_cIV (hc := hw2) (rest := []) rfl rfl rfl rfl rfl rfl rfl rfl (xnm_no rfl) ?_
    refine e_if_ne (t := 14) rfl rfl (xnm_no rfl) (xnm_no rfl) h (fun h => ?_) (fun h => ?_)
    · refine e_aload_n rfl rfl rfl (xnm_no rfl) ?_
      obtain ⟨w3, hw4, h⟩ := xbd_some h
      refine e_cIV (hc := hw4) (rest := []) rfl rfl rfl rfl rfl rfl rfl rfl (xnm_no rfl) ?_
      refine e_if_ne (t := 24) rfl rfl (xnm_no rfl) (xnm_no rfl) h (fun h => ?_) (fun h => ?_)
      · refine e_aload_n rfl rfl rfl (xnm_no rfl) ?_
        obtain ⟨w5, hw6, h⟩ := xbd_some h
        refine e_cIV (hc := hw6) (rest := []) rfl rfl rfl rfl rfl rfl rfl rfl (xnm_no rfl) ?_
        refine e_istore_n rfl rfl (xnm_no rfl) ?_
        refine e_iload_n rfl rfl (xnm_no rfl) ?_
        refine e_iload_n rfl rfl (xnm_no rfl) ?_
        refine e_icmp_lt (t := 36) rfl rfl (xnm_no rfl) (xnm_no rfl) h (fun h => ?_) (fun h => ?_)
        · refine e_iload_n rfl rfl (xnm_no rfl) ?_
          refine e_istore rfl rfl (xnm_no rfl) ?_
          refine e_iconst (x := 0) rfl (by decide) (xnm_no rfl) ?_
          refine e_istore rfl rfl (xnm_no rfl) ?_
          refine e_iconst (x := -1) rfl (by decide) (xnm_no rfl) ?_
          refine e_istore rfl rfl (xnm_no rfl) ?_
          refine e_iconst (x := 0) rfl (by decide) (xnm_no rfl) ?_
          refine e_istore rfl rfl rfl ?_
          exact xlfI h
        · refine e_iconst (x := -1) rfl (by decide) (xnm_no rfl) ?_
          cases h
          exact e_retI rfl rfl
      · refine e_bipush (x := -2) rfl (by decide) (xnm_no rfl) ?_
        cases h
        exact e_retI rfl rfl
    · refine e_iconst (x := -1) rfl (by decide) (xnm_no rfl) ?_
      cases h
      exact e_retI rfl rfl
set_option maxRecDepth 4000 in
theorem bX12_straight_144_48_i (v2 : Int32) (v4 : Int32) (v5 : Int32) (v6 : Int32) (v7 : Int32) (m : xmm) {z : Int32 × xmm} (h : (if v2 < v7 then some (v6, m) else bX12_straight_144_57 v2 v4 v5 (0 : Int32) v7 m) = some z) : bX12_straight_144_48 v2 v4 v5 v6 v7 m = some z := by
  refine xstI ?_
  show xT 232 7 48 [(0, .ref 144), (2, .int v2), (4, .int v4), (5, .int v5), (6, .int v6), (7, .int v7)] [] m (some (.int z.1), z.2)
  refine e_iload rfl rfl (xnm_no rfl) ?_
  refine e_iload_n rfl rfl (xnm_no rfl) ?_
  refine e_icmp_gt (t := 160) rfl rfl (xnm_no rfl) (xnm_no rfl) h (fun h => ?_) (fun h => ?_)
  · refine e_iload rfl rfl (xnm_no rfl) ?_
    cases h
    exact e_retI rfl rfl
  · refine e_iconst (x := 0) rfl (by decide) (xnm_no rfl) ?_
    refine e_istore rfl rfl rfl ?_
    exact xlfI h
set_option maxRecDepth 4000 in
theorem bX12_straight_144_57_i (v2 : Int32) (v4 : Int32) (v5 : Int32) (v6 : Int32) (v7 : Int32) (m : xmm) {z : Int32 × xmm} (h : ((fX12_has v5 v6 m).bind fun (w1 : Int32 × xmm) => if w1.1 = 0 then xgd (xinb 8 v6) (if ((w1.2.1 165 (v6).toNatClampNeg) &&& (v5 ^^^ (-1 : Int32))) = 0 then (fX12_waysBehind_144 (v5 ||| ((1 : Int32) <<< (v6 &&& 31))) w1.2).bind fun (w4 : Int32 × xmm) => if v4 < w4.1 then bX12_straight_144_48 v2 v4 (v5 ||| ((1 : Int32) <<< (v6 &&& 31))) v6 (v7 + (1 : Int32)) w4.2 else bX12_straight_144_98 v2 v4 v5 v6 v7 w4.2 else bX12_straight_144_98 v2 v4 v5 v6 v7 w1.2) else bX12_straight_144_98 v2 v4 v5 v6 v7 w1.2) = some z) : bX12_straight_144_57 v2 v4 v5 v6 v7 m = some z := by
  refine xstI ?_
  show xT 232 7 57 [(0, .ref 144), (2, .int v2), (4, .int v4), (5, .int v5), (6, .int v6), (7, .int v7)] [] m (some (.int z.1), z.2)
  refine e_iload rfl rfl (xnm_no rfl) ?_
  refine e_iload rfl rfl (xnm_no rfl) ?_
  obtain ⟨w1, hw2, h⟩ := xbd_some h
  refine e_cIS (hc := hw2) (rest := []) rfl rfl rfl rfl rfl rfl rfl rfl (xnm_no rfl) ?_
  refine e_if_ne (t := 98) rfl rfl rfl (xnm_no rfl) h (fun h => ?_) (fun h => ?_)
  · exact xlfI h
  · refine e_aload_n rfl rfl rfl (xnm_no rfl) ?_
    refine e_getR (r := 165) rfl rfl rfl rfl rfl (xnm_no rfl) ?_
    refine e_iload rfl rfl (xnm_no rfl) ?_
    obtain ⟨g3, h⟩ := xgd_some h
    refine e_iald rfl g3 (xnm_no rfl) ?_
    refine e_iload rfl rfl (xnm_no rfl) ?_
    refine e_iconst (x := -1) rfl (by decide) (xnm_no rfl) ?_
    refine e_ixor rfl (xnm_no rfl) ?_
    refine e_iand rfl (xnm_no rfl) ?_
    refine e_if_ne (t := 98) rfl rfl rfl (xnm_no rfl) h (fun h => ?_) (fun h => ?_)
    · exact xlfI h
    · refine e_iload rfl rfl (xnm_no rfl) ?_
      refine e_aload_n rfl rfl rfl (xnm_no rfl) ?_
      refine e_iload rfl rfl (xnm_no rfl) ?_
      refine e_iconst (x := 1) rfl (by decide) (xnm_no rfl) ?_
      refine e_iload rfl rfl (xnm_no rfl) ?_
      refine e_ishl rfl (xnm_no rfl) ?_
      refine e_ior rfl (xnm_no rfl) ?_
      obtain ⟨w4, hw5, h⟩ := xbd_some h
      refine e_cIV (hc := hw5) (rest := [.int _]) rfl rfl rfl rfl rfl rfl rfl rfl (xnm_no rfl) ?_
      refine e_icmp_lt (t := 145) rfl rfl (xnm_no rfl) rfl h (fun h => ?_) (fun h => ?_)
      · refine e_iload rfl rfl (xnm_no rfl) ?_
        refine e_iconst (x := 1) rfl (by decide) (xnm_no rfl) ?_
        refine e_iload rfl rfl (xnm_no rfl) ?_
        refine e_ishl rfl (xnm_no rfl) ?_
        refine e_ior rfl (xnm_no rfl) ?_
        refine e_istore rfl rfl (xnm_no rfl) ?_
        refine e_iinc (y := 1) rfl rfl rfl (by decide) (xnm_no rfl) ?_
        refine e_goto (t := 48) rfl rfl rfl ?_
        exact xlfI h
      · exact xlfI h
set_option maxRecDepth 4000 in
theorem bX12_straight_144_98_i (v2 : Int32) (v4 : Int32) (v5 : Int32) (v6 : Int32) (v7 : Int32) (m : xmm) {z : Int32 × xmm} (h : ((fX12_has v5 v6 m).bind fun (w1 : Int32 × xmm) => if w1.1 = 0 then xgd (xinb 8 v6) (if ((w1.2.1 165 (v6).toNatClampNeg) &&& (v5 ^^^ (-1 : Int32))) = 0 then (fX12_waysBehind_144 (v5 ||| ((1 : Int32) <<< (v6 &&& 31))) w1.2).bind fun (w4 : Int32 × xmm) => bX12_straight_144_57 v2 (v4 - w4.1) v5 (v6 + (1 : Int32)) v7 w4.2 else bX12_straight_144_57 v2 v4 v5 (v6 + (1 : Int32)) v7 w1.2) else bX12_straight_144_57 v2 v4 v5 (v6 + (1 : Int32)) v7 w1.2) = some z) : bX12_straight_144_98 v2 v4 v5 v6 v7 m = some z := by
  refine xstI ?_
  show xT 232 7 98 [(0, .ref 144), (2, .int v2), (4, .int v4), (5, .int v5), (6, .int v6), (7, .int v7)] [] m (some (.int z.1), z.2)
  refine e_iload rfl rfl (xnm_no rfl) ?_
  refine e_iload rfl rfl (xnm_no rfl) ?_
  obtain ⟨w1, hw2, h⟩ := xbd_some h
  refine e_cIS (hc := hw2) (rest := []) rfl rfl rfl rfl rfl rfl rfl rfl (xnm_no rfl) ?_
  refine e_if_ne (t := 139) rfl rfl (xnm_no rfl) (xnm_no rfl) h (fun h => ?_) (fun h => ?_)
  · refine e_iinc (y := 1) rfl rfl rfl (by decide) (xnm_no rfl) ?_
    refine e_goto (t := 57) rfl rfl rfl ?_
    exact xlfI h
  · refine e_aload_n rfl rfl rfl (xnm_no rfl) ?_
    refine e_getR (r := 165) rfl rfl rfl rfl rfl (xnm_no rfl) ?_
    refine e_iload rfl rfl (xnm_no rfl) ?_
    obtain ⟨g3, h⟩ := xgd_some h
    refine e_iald rfl g3 (xnm_no rfl) ?_
    refine e_iload rfl rfl (xnm_no rfl) ?_
    refine e_iconst (x := -1) rfl (by decide) (xnm_no rfl) ?_
    refine e_ixor rfl (xnm_no rfl) ?_
    refine e_iand rfl (xnm_no rfl) ?_
    refine e_if_ne (t := 139) rfl rfl (xnm_no rfl) (xnm_no rfl) h (fun h => ?_) (fun h => ?_)
    · refine e_iinc (y := 1) rfl rfl rfl (by decide) (xnm_no rfl) ?_
      refine e_goto (t := 57) rfl rfl rfl ?_
      exact xlfI h
    · refine e_iload rfl rfl (xnm_no rfl) ?_
      refine e_aload_n rfl rfl rfl (xnm_no rfl) ?_
      refine e_iload rfl rfl (xnm_no rfl) ?_
      refine e_iconst (x := 1) rfl (by decide) (xnm_no rfl) ?_
      refine e_iload rfl rfl (xnm_no rfl) ?_
      refine e_ishl rfl (xnm_no rfl) ?_
      refine e_ior rfl (xnm_no rfl) ?_
      obtain ⟨w4, hw5, h⟩ := xbd_some h
      refine e_cIV (hc := hw5) (rest := [.int _]) rfl rfl rfl rfl rfl rfl rfl rfl (xnm_no rfl) ?_
      refine e_isub rfl (xnm_no rfl) ?_
      refine e_istore rfl rfl (xnm_no rfl) ?_
      refine e_iinc (y := 1) rfl rfl rfl (by decide) (xnm_no rfl) ?_
      refine e_goto (t := 57) rfl rfl rfl ?_
      exact xlfI h
set_option maxRecDepth 4000 in
theorem fX5_sumOfSigns_123_i (v1 : Int32) (m : xmm) {z : Int32 × xmm} (h : (bX5_sumOfSigns_123_4 v1 (0 : Int32) (0 : Int32) m) = some z) : fX5_sumOfSigns_123 v1 m = some z := by
  refine xstI ?_
  show xT 60 1 0 [(0, .ref 123), (1, .int v1)] [] m (some (.int z.1), z.2)
  refine e_iconst (x := 0) rfl (by decide) (xnm_no rfl) ?_
  refine e_istore_n rfl rfl (xnm_no rfl) ?_
  refine e_iconst (x := 0) rfl (by decide) (xnm_no rfl) ?_
  refine e_istore_n rfl rfl rfl ?_
  exact xlfI h
set_option maxRecDepth 4000 in
theorem bX5_sumOfSigns_123_4_i (v1 : Int32) (v2 : Int32) (v3 : Int32) (m : xmm) {z : Int32 × xmm} (h : (if (m.1 123 6) ≤ v3 then some (v2, m) else (fX11_contains v1 v3 m).bind fun (w1 : Int32 × xmm) => if w1.1 = 0 then bX5_sumOfSigns_123_4 v1 v2 (v3 + (1 : Int32)) w1.2 else xgd (xinb 8 v3) (bX5_sumOfSigns_123_4 v1 (v2 + (w1.2.1 128 (v3).toNatClampNeg)) (v3 + (1 : Int32)) w1.2)) = some z) : bX5_sumOfSigns_123_4 v1 v2 v3 m = some z := by
  refine xstI ?_
  show xT 60 1 4 [(0, .ref 123), (1, .int v1), (2, .int v2), (3, .int v3)] [] m (some (.int z.1), z.2)
  refine e_iload_n rfl rfl (xnm_no rfl) ?_
  refine e_aload_n rfl rfl rfl (xnm_no rfl) ?_
  refine e_getI rfl rfl rfl rfl (xnm_no rfl) ?_
  refine e_icmp_ge (t := 35) rfl rfl (xnm_no rfl) (xnm_no rfl) h (fun h => ?_) (fun h => ?_)
  · refine e_iload_n rfl rfl (xnm_no rfl) ?_
    cases h
    exact e_retI rfl rfl
  · refine e_iload_n rfl rfl (xnm_no rfl) ?_
    refine e_iload_n rfl rfl (xnm_no rfl) ?_
    obtain ⟨w1, hw2, h⟩ := xbd_some h
    refine e_cIS (hc := hw2) (rest := []) rfl rfl rfl rfl rfl rfl rfl rfl (xnm_no rfl) ?_
    refine e_if_eq (t := 29) rfl rfl (xnm_no rfl) (xnm_no rfl) h (fun h => ?_) (fun h => ?_)
    · refine e_iinc (y := 1) rfl rfl rfl (by decide) (xnm_no rfl) ?_
      refine e_goto (t := 4) rfl rfl rfl ?_
      exact xlfI h
    · refine e_iload_n rfl rfl (xnm_no rfl) ?_
      refine e_aload_n rfl rfl rfl (xnm_no rfl) ?_
      refine e_getR (r := 128) rfl rfl rfl rfl rfl (xnm_no rfl) ?_
      refine e_iload_n rfl rfl (xnm_no rfl) ?_
      obtain ⟨g3, h⟩ := xgd_some h
      refine e_iald rfl g3 (xnm_no rfl) ?_
      refine e_iadd rfl (xnm_no rfl) ?_
      refine e_istore_n rfl rfl (xnm_no rfl) ?_
      refine e_iinc (y := 1) rfl rfl rfl (by decide) (xnm_no rfl) ?_
      refine e_goto (t := 4) rfl rfl rfl ?_
      exact xlfI h
set_option maxRecDepth 4000 in
theorem fX5_signOf_123_i (v1 : Int32) (v2 : Int32) (m : xmm) {z : Int32 × xmm} (h : (if v1 = v2 then bX5_signOf_123_18 v1 v2 (0 : Int32) m else (fX5_isUnder_123 v1 v2 m).bind fun (w1 : Int32 × xmm) => if w1.1 = 0 then some ((0 : Int32), w1.2) else bX5_signOf_123_18 v1 v2 (0 : Int32) w1.2) = some z) : fX5_signOf_123 v1 v2 m = some z := by
  refine xstI ?_
  show xT 59 3 0 [(0, .ref 123), (1, .int v1), (2, .int v2)] [] m (some (.int z.1), z.2)
  refine e_iload_n rfl rfl (xnm_no rfl) ?_
  refine e_iload_n rfl rfl (xnm_no rfl) ?_
  refine e_icmp_eq (t := 16) rfl rfl (xnm_no rfl) (xnm_no rfl) h (fun h => ?_) (fun h => ?_)
  · refine e_iconst (x := 0) rfl (by decide) (xnm_no rfl) ?_
    refine e_istore_n rfl rfl rfl ?_
    exact xlfI h
  · refine e_aload_n rfl rfl rfl (xnm_no rfl) ?_
    refine e_iload_n rfl rfl (xnm_no rfl) ?_
    refine e_iload_n rfl rfl (xnm_no rfl) ?_
    obtain ⟨w1, hw2, h⟩ := xbd_some h
    refine e_cIV (hc := hw2) (rest := []) rfl rfl rfl rfl rfl rfl rfl rfl (xnm_no rfl) ?_
    refine e_if_ne (t := 16) rfl rfl (xnm_no rfl) (xnm_no rfl) h (fun h => ?_) (fun h => ?_)
    · refine e_iconst (x := 0) rfl (by decide) (xnm_no rfl) ?_
      refine e_istore_n rfl rfl rfl ?_
      exact xlfI h
    · refine e_iconst (x := 0) rfl (by decide) (xnm_no rfl) ?_
      cases h
      exact e_retI rfl rfl
set_option maxRecDepth 4000 in
theorem bX5_signOf_123_18_i (v1 : Int32) (v2 : Int32) (v3 : Int32) (m : xmm) {z : Int32 × xmm} (h : (if (8 : Int32) ≤ v3 then xgd (xinb 8 v1) (xlt (xwi m 128 (v1).toNatClampNeg (1 : Int32)) fun (m2 : xmm) => bX5_signOf_123_46 v1 v2 (0 : Int32) m2) else xgd (xinb 8 v3) (xlt (xwi m 128 (v3).toNatClampNeg (0 : Int32)) fun (m4 : xmm) => bX5_signOf_123_18 v1 v2 (v3 + (1 : Int32)) m4)) = some z) : bX5_signOf_123_18 v1 v2 v3 m = some z := by
  refine xstI ?_
  show xT 59 3 18 [(0, .ref 123), (1, .int v1), (2, .int v2), (3, .int v3)] [] m (some (.int z.1), z.2)
  refine e_iload_n rfl rfl (xnm_no rfl) ?_
  refine e_bipush (x := 8) rfl (by decide) (xnm_no rfl) ?_
  refine e_icmp_ge (t := 37) rfl rfl (xnm_no rfl) (xnm_no rfl) h (fun h => ?_) (fun h => ?_)
  · refine e_aload_n rfl rfl rfl (xnm_no rfl) ?_
    refine e_getR (r := 128) rfl rfl rfl rfl rfl (xnm_no rfl) ?_
    refine e_iload_n rfl rfl (xnm_no rfl) ?_
    refine e_iconst (x := 1) rfl (by decide) (xnm_no rfl) ?_
    obtain ⟨g1, h⟩ := xgd_some h
    refine e_iast rfl g1 (xnm_no rfl) ?_
    replace h := xlt_b h
    refine e_iconst (x := 0) rfl (by decide) (xnm_no rfl) ?_
    refine e_istore_n rfl rfl rfl ?_
    exact xlfI h
  · refine e_aload_n rfl rfl rfl (xnm_no rfl) ?_
    refine e_getR (r := 128) rfl rfl rfl rfl rfl (xnm_no rfl) ?_
    refine e_iload_n rfl rfl (xnm_no rfl) ?_
    refine e_iconst (x := 0) rfl (by decide) (xnm_no rfl) ?_
    obtain ⟨g3, h⟩ := xgd_some h
    refine e_iast rfl g3 (xnm_no rfl) ?_
    replace h := xlt_b h
    refine e_iinc (y := 1) rfl rfl rfl (by decide) (xnm_no rfl) ?_
    refine e_goto (t := 18) rfl rfl rfl ?_
    exact xlfI h
set_option maxRecDepth 4000 in
theorem bX5_signOf_123_46_i (v1 : Int32) (v2 : Int32) (v3 : Int32) (m : xmm) {z : Int32 × xmm} (h : (if (m.1 123 6) ≤ v3 then xgd (xinb 8 v2) (some ((m.1 128 (v2).toNatClampNeg), m)) else (fX5_straightAt_123 (0 : Int32) v3 m).bind fun (w2 : Int32 × xmm) => if w2.1 = (-1 : Int32) then bX5_signOf_123_46 v1 v2 (v3 + (1 : Int32)) w2.2 else (fX5_isUnder_123 v1 w2.1 w2.2).bind fun (w4 : Int32 × xmm) => if w4.1 = 0 then bX5_signOf_123_46 v1 v2 (v3 + (1 : Int32)) w4.2 else xgd (xinb 8 w2.1) ((fX5_sumOfSigns_123 (w4.2.1 125 (w2.1).toNatClampNeg) w4.2).bind fun (w7 : Int32 × xmm) => xlt (xwi w7.2 128 (w2.1).toNatClampNeg (-w7.1)) fun (m9 : xmm) => bX5_signOf_123_46 v1 v2 (v3 + (1 : Int32)) m9)) = some z) : bX5_signOf_123_46 v1 v2 v3 m = some z := by
  refine xstI ?_
  show xT 59 3 46 [(0, .ref 123), (1, .int v1), (2, .int v2), (3, .int v3)] [] m (some (.int z.1), z.2)
  refine e_iload_n rfl rfl (xnm_no rfl) ?_
  refine e_aload_n rfl rfl rfl (xnm_no rfl) ?_
  refine e_getI rfl rfl rfl rfl (xnm_no rfl) ?_
  refine e_icmp_ge (t := 103) rfl rfl (xnm_no rfl) (xnm_no rfl) h (fun h => ?_) (fun h => ?_)
  · refine e_aload_n rfl rfl rfl (xnm_no rfl) ?_
    refine e_getR (r := 128) rfl rfl rfl rfl rfl (xnm_no rfl) ?_
    refine e_iload_n rfl rfl (xnm_no rfl) ?_
    obtain ⟨g1, h⟩ := xgd_some h
    refine e_iald rfl g1 (xnm_no rfl) ?_
    cases h
    exact e_retI rfl rfl
  · refine e_aload_n rfl rfl rfl (xnm_no rfl) ?_
    refine e_iconst (x := 0) rfl (by decide) (xnm_no rfl) ?_
    refine e_iload_n rfl rfl (xnm_no rfl) ?_
    obtain ⟨w2, hw3, h⟩ := xbd_some h
    refine e_cIV (hc := hw3) (rest := []) rfl rfl rfl rfl rfl rfl rfl rfl (xnm_no rfl) ?_
    refine e_istore rfl rfl (xnm_no rfl) ?_
    refine e_iload rfl rfl (xnm_no rfl) ?_
    refine e_iconst (x := -1) rfl (by decide) (xnm_no rfl) ?_
    refine e_icmp_eq (t := 97) rfl rfl (xnm_no rfl) (xnm_no rfl) h (fun h => ?_) (fun h => ?_)
    · refine e_iinc (y := 1) rfl rfl rfl (by decide) (xnm_no rfl) ?_
      refine e_goto (t := 46) rfl rfl rfl ?_
      exact xlfI h
    · refine e_aload_n rfl rfl rfl (xnm_no rfl) ?_
      refine e_iload_n rfl rfl (xnm_no rfl) ?_
      refine e_iload rfl rfl (xnm_no rfl) ?_
      obtain ⟨w4, hw5, h⟩ := xbd_some h
      refine e_cIV (hc := hw5) (rest := []) rfl rfl rfl rfl rfl rfl rfl rfl (xnm_no rfl) ?_
      refine e_if_eq (t := 97) rfl rfl (xnm_no rfl) (xnm_no rfl) h (fun h => ?_) (fun h => ?_)
      · refine e_iinc (y := 1) rfl rfl rfl (by decide) (xnm_no rfl) ?_
        refine e_goto (t := 46) rfl rfl rfl ?_
        exact xlfI h
      · refine e_aload_n rfl rfl rfl (xnm_no rfl) ?_
        refine e_getR (r := 128) rfl rfl rfl rfl rfl (xnm_no rfl) ?_
        refine e_iload rfl rfl (xnm_no rfl) ?_
        refine e_aload_n rfl rfl rfl (xnm_no rfl) ?_
        refine e_aload_n rfl rfl rfl (xnm_no rfl) ?_
        refine e_getR (r := 125) rfl rfl rfl rfl rfl (xnm_no rfl) ?_
        refine e_iload rfl rfl (xnm_no rfl) ?_
        obtain ⟨g6, h⟩ := xgd_some h
        refine e_iald rfl g6 (xnm_no rfl) ?_
        obtain ⟨w7, hw8, h⟩ := xbd_some h
        refine e_cIV (hc := hw8) (rest := [.int _, .ref 128]) rfl rfl rfl rfl rfl rfl rfl rfl (xnm_no rfl) ?_
        refine e_ineg rfl (xnm_no rfl) ?_
        refine e_iast rfl g6 (xnm_no rfl) ?_
        replace h := xlt_b h
        refine e_iinc (y := 1) rfl rfl rfl (by decide) (xnm_no rfl) ?_
        refine e_goto (t := 46) rfl rfl rfl ?_
        exact xlfI h
set_option maxRecDepth 4000 in
theorem fX11_sign_0_i (v1 : Int32) (v2 : Int32) (m : xmm) {z : Int32 × xmm} (h : ((fX3_hasPost 10 v1 m).bind fun (w1 : Int32 × xmm) => if w1.1 = 0 then some ((-100000 : Int32), w1.2) else (fX3_hasPost 10 v2 w1.2).bind fun (w3 : Int32 × xmm) => if w3.1 = 0 then some ((-100000 : Int32), w3.2) else (fX11_study_0 w3.2).bind fun (w5 : xmm) => (fX1_isOrdered_97 w5).bind fun (w7 : Int32 × xmm) => if w7.1 = 0 then some ((-100000 : Int32), w7.2) else (fX5_signOf_123 v1 v2 w7.2).bind fun (w9 : Int32 × xmm) => some (w9.1, w9.2)) = some z) : fX11_sign_0 v1 v2 m = some z := by
  refine xstI ?_
  show xT 137 6 0 [(0, .ref 0), (1, .int v1), (2, .int v2)] [] m (some (.int z.1), z.2)
  refine e_aload_n rfl rfl rfl (xnm_no rfl) ?_
  refine e_getR (r := 10) rfl rfl rfl rfl rfl (xnm_no rfl) ?_
  refine e_iload_n rfl rfl (xnm_no rfl) ?_
  obtain ⟨w1, hw2, h⟩ := xbd_some h
  refine e_cIV (hc := hw2) (rest := []) rfl rfl rfl rfl rfl rfl rfl rfl (xnm_no rfl) ?_
  refine e_if_eq (t := 22) rfl rfl (xnm_no rfl) (xnm_no rfl) h (fun h => ?_) (fun h => ?_)
  · refine e_ldcw (v := -100000) rfl rfl (xnm_no rfl) ?_
    cases h
    exact e_retI rfl rfl
  · refine e_aload_n rfl rfl rfl (xnm_no rfl) ?_
    refine e_getR (r := 10) rfl rfl rfl rfl rfl (xnm_no rfl) ?_
    refine e_iload_n rfl rfl (xnm_no rfl) ?_
    obtain ⟨w3, hw4, h⟩ := xbd_some h
    refine e_cIV (hc := hw4) (rest := []) rfl rfl rfl rfl rfl rfl rfl rfl (xnm_no rfl) ?_
    refine e_if_ne (t := 26) rfl rfl (xnm_no rfl) (xnm_no rfl) h (fun h => ?_) (fun h => ?_)
    · refine e_aload_n rfl rfl rfl (xnm_no rfl) ?_
      obtain ⟨w5, hw6, h⟩ := xbd_some h
      refine e_cVV (hc := hw6) (rest := []) rfl rfl rfl rfl rfl rfl rfl rfl (xnm_no rfl) ?_
      refine e_aload_n rfl rfl rfl (xnm_no rfl) ?_
      refine e_getR (r := 97) rfl rfl rfl rfl rfl (xnm_no rfl) ?_
      obtain ⟨w7, hw8, h⟩ := xbd_some h
      refine e_cIV (hc := hw8) (rest := []) rfl rfl rfl rfl rfl rfl rfl rfl (xnm_no rfl) ?_
      refine e_if_eq (t := 52) rfl rfl (xnm_no rfl) (xnm_no rfl) h (fun h => ?_) (fun h => ?_)
      · refine e_ldcw (v := -100000) rfl rfl (xnm_no rfl) ?_
        cases h
        exact e_retI rfl rfl
      · refine e_aload_n rfl rfl rfl (xnm_no rfl) ?_
        refine e_getR (r := 123) rfl rfl rfl rfl rfl (xnm_no rfl) ?_
        refine e_iload_n rfl rfl (xnm_no rfl) ?_
        refine e_iload_n rfl rfl (xnm_no rfl) ?_
        obtain ⟨w9, hw10, h⟩ := xbd_some h
        refine e_cIV (hc := hw10) (rest := []) rfl rfl rfl rfl rfl rfl rfl rfl (xnm_no rfl) ?_
        refine e_goto (t := 55) rfl rfl (xnm_no rfl) ?_
        cases h
        exact e_retI rfl rfl
    · refine e_ldcw (v := -100000) rfl rfl (xnm_no rfl) ?_
      cases h
      exact e_retI rfl rfl
set_option maxRecDepth 4000 in
theorem fX12_sign_144_i (v1 : Int32) (v2 : Int32) (m : xmm) {z : Int32 × xmm} (h : ((fX12_isPost_144 v1 m).bind fun (w1 : Int32 × xmm) => if w1.1 = 0 then some ((-100000 : Int32), w1.2) else (fX12_isPost_144 v2 w1.2).bind fun (w3 : Int32 × xmm) => if w3.1 = 0 then some ((-100000 : Int32), w3.2) else (fX12_isArrowed_144 w3.2).bind fun (w5 : Int32 × xmm) => if w5.1 = 0 then some ((-100000 : Int32), w5.2) else if v1 = v2 then bX12_sign_144_49 v1 v2 (0 : Int32) w5.2 else xgd (xinb 8 v1) ((fX12_has (w5.2.1 164 (v1).toNatClampNeg) v2 w5.2).bind fun (w8 : Int32 × xmm) => if w8.1 = 0 then some ((0 : Int32), w8.2) else bX12_sign_144_49 v1 v2 (0 : Int32) w8.2)) = some z) : fX12_sign_144 v1 v2 m = some z := by
  refine xstI ?_
  show xT 237 7 0 [(0, .ref 144), (1, .int v1), (2, .int v2)] [] m (some (.int z.1), z.2)
  refine e_aload_n rfl rfl rfl (xnm_no rfl) ?_
  refine e_iload_n rfl rfl (xnm_no rfl) ?_
  obtain ⟨w1, hw2, h⟩ := xbd_some h
  refine e_cIV (hc := hw2) (rest := []) rfl rfl rfl rfl rfl rfl rfl rfl (xnm_no rfl) ?_
  refine e_if_eq (t := 23) rfl rfl (xnm_no rfl) (xnm_no rfl) h (fun h => ?_) (fun h => ?_)
  · refine e_ldcw (v := -100000) rfl rfl (xnm_no rfl) ?_
    cases h
    exact e_retI rfl rfl
  · refine e_aload_n rfl rfl rfl (xnm_no rfl) ?_
    refine e_iload_n rfl rfl (xnm_no rfl) ?_
    obtain ⟨w3, hw4, h⟩ := xbd_some h
    refine e_cIV (hc := hw4) (rest := []) rfl rfl rfl rfl rfl rfl rfl rfl (xnm_no rfl) ?_
    refine e_if_eq (t := 23) rfl rfl (xnm_no rfl) (xnm_no rfl) h (fun h => ?_) (fun h => ?_)
    · refine e_ldcw (v := -100000) rfl rfl (xnm_no rfl) ?_
      cases h
      exact e_retI rfl rfl
    · refine e_aload_n rfl rfl rfl (xnm_no rfl) ?_
      obtain ⟨w5, hw6, h⟩ := xbd_some h
      refine e_cIV (hc := hw6) (rest := []) rfl rfl rfl rfl rfl rfl rfl rfl (xnm_no rfl) ?_
      refine e_if_ne (t := 27) rfl rfl (xnm_no rfl) (xnm_no rfl) h (fun h => ?_) (fun h => ?_)
      · refine e_iload_n rfl rfl (xnm_no rfl) ?_
        refine e_iload_n rfl rfl (xnm_no rfl) ?_
        refine e_icmp_eq (t := 47) rfl rfl (xnm_no rfl) (xnm_no rfl) h (fun h => ?_) (fun h => ?_)
        · refine e_iconst (x := 0) rfl (by decide) (xnm_no rfl) ?_
          refine e_istore_n rfl rfl rfl ?_
          exact xlfI h
        · refine e_aload_n rfl rfl rfl (xnm_no rfl) ?_
          refine e_getR (r := 164) rfl rfl rfl rfl rfl (xnm_no rfl) ?_
          refine e_iload_n rfl rfl (xnm_no rfl) ?_
          obtain ⟨g7, h⟩ := xgd_some h
          refine e_iald rfl g7 (xnm_no rfl) ?_
          refine e_iload_n rfl rfl (xnm_no rfl) ?_
          obtain ⟨w8, hw9, h⟩ := xbd_some h
          refine e_cIS (hc := hw9) (rest := []) rfl rfl rfl rfl rfl rfl rfl rfl (xnm_no rfl) ?_
          refine e_if_ne (t := 47) rfl rfl (xnm_no rfl) (xnm_no rfl) h (fun h => ?_) (fun h => ?_)
          · refine e_iconst (x := 0) rfl (by decide) (xnm_no rfl) ?_
            refine e_istore_n rfl rfl rfl ?_
            exact xlfI h
          · refine e_iconst (x := 0) rfl (by decide) (xnm_no rfl) ?_
            cases h
            exact e_retI rfl rfl
      · refine e_ldcw (v := -100000) rfl rfl (xnm_no rfl) ?_
        cases h
        exact e_retI rfl rfl
set_option maxRecDepth 4000 in
theorem bX12_sign_144_49_i (v1 : Int32) (v2 : Int32) (v3 : Int32) (m : xmm) {z : Int32 × xmm} (h : (if (m.1 144 17) ≤ v3 then bX12_sign_144_81 v1 v2 (0 : Int32) m else if v3 = v1 then xgd (xinb 8 v3) (xlt (xwi m 177 (v3).toNatClampNeg (1 : Int32)) fun (m4 : xmm) => bX12_sign_144_49 v1 v2 (v3 + (1 : Int32)) m4) else xgd (xinb 8 v3) (xlt (xwi m 177 (v3).toNatClampNeg (0 : Int32)) fun (m2 : xmm) => bX12_sign_144_49 v1 v2 (v3 + (1 : Int32)) m2)) = some z) : bX12_sign_144_49 v1 v2 v3 m = some z := by
  refine xstI ?_
  show xT 237 7 49 [(0, .ref 144), (1, .int v1), (2, .int v2), (3, .int v3)] [] m (some (.int z.1), z.2)
  refine e_iload_n rfl rfl (xnm_no rfl) ?_
  refine e_aload_n rfl rfl rfl (xnm_no rfl) ?_
  refine e_getI rfl rfl rfl rfl (xnm_no rfl) ?_
  refine e_icmp_ge (t := 79) rfl rfl (xnm_no rfl) (xnm_no rfl) h (fun h => ?_) (fun h => ?_)
  · refine e_iconst (x := 0) rfl (by decide) (xnm_no rfl) ?_
    refine e_istore_n rfl rfl rfl ?_
    exact xlfI h
  · refine e_aload_n rfl rfl rfl (xnm_no rfl) ?_
    refine e_getR (r := 177) rfl rfl rfl rfl rfl (xnm_no rfl) ?_
    refine e_iload_n rfl rfl (xnm_no rfl) ?_
    refine e_iload_n rfl rfl (xnm_no rfl) ?_
    refine e_iload_n rfl rfl (xnm_no rfl) ?_
    refine e_icmp_ne (t := 71) rfl rfl (xnm_no rfl) (xnm_no rfl) h (fun h => ?_) (fun h => ?_)
    · refine e_iconst (x := 0) rfl (by decide) (xnm_no rfl) ?_
      obtain ⟨g1, h⟩ := xgd_some h
      refine e_iast rfl g1 (xnm_no rfl) ?_
      replace h := xlt_b h
      refine e_iinc (y := 1) rfl rfl rfl (by decide) (xnm_no rfl) ?_
      refine e_goto (t := 49) rfl rfl rfl ?_
      exact xlfI h
    · refine e_iconst (x := 1) rfl (by decide) (xnm_no rfl) ?_
      refine e_goto (t := 72) rfl rfl (xnm_no rfl) ?_
      obtain ⟨g3, h⟩ := xgd_some h
      refine e_iast rfl g3 (xnm_no rfl) ?_
      replace h := xlt_b h
      refine e_iinc (y := 1) rfl rfl rfl (by decide) (xnm_no rfl) ?_
      refine e_goto (t := 49) rfl rfl rfl ?_
      exact xlfI h
set_option maxRecDepth 4000 in
theorem bX12_sign_144_81_i (v1 : Int32) (v2 : Int32) (v3 : Int32) (m : xmm) {z : Int32 × xmm} (h : (if (m.1 144 17) ≤ v3 then xgd (xinb 8 v2) (some ((m.1 177 (v2).toNatClampNeg), m)) else bX12_sign_144_92 v1 v2 v3 (0 : Int32) m) = some z) : bX12_sign_144_81 v1 v2 v3 m = some z := by
  refine xstI ?_
  show xT 237 7 81 [(0, .ref 144), (1, .int v1), (2, .int v2), (3, .int v3)] [] m (some (.int z.1), z.2)
  refine e_iload_n rfl rfl (xnm_no rfl) ?_
  refine e_aload_n rfl rfl rfl (xnm_no rfl) ?_
  refine e_getI rfl rfl rfl rfl (xnm_no rfl) ?_
  refine e_icmp_ge (t := 208) rfl rfl (xnm_no rfl) (xnm_no rfl) h (fun h => ?_) (fun h => ?_)
  · refine e_aload_n rfl rfl rfl (xnm_no rfl) ?_
    refine e_getR (r := 177) rfl rfl rfl rfl rfl (xnm_no rfl) ?_
    refine e_iload_n rfl rfl (xnm_no rfl) ?_
    obtain ⟨g1, h⟩ := xgd_some h
    refine e_iald rfl g1 (xnm_no rfl) ?_
    cases h
    exact e_retI rfl rfl
  · refine e_iconst (x := 0) rfl (by decide) (xnm_no rfl) ?_
    refine e_istore rfl rfl rfl ?_
    exact xlfI h
set_option maxRecDepth 4000 in
theorem bX12_sign_144_92_i (v1 : Int32) (v2 : Int32) (v3 : Int32) (v4 : Int32) (m : xmm) {z : Int32 × xmm} (h : (if (m.1 144 17) ≤ v4 then bX12_sign_144_81 v1 v2 (v3 + (1 : Int32)) m else xgd (xinb 8 v1) ((fX12_has (m.1 164 (v1).toNatClampNeg) v4 m).bind fun (w2 : Int32 × xmm) => if w2.1 = 0 then bX12_sign_144_92 v1 v2 v3 (v4 + (1 : Int32)) w2.2 else xgd (xinb 8 v4) (xlt (xwi w2.2 177 (v4).toNatClampNeg (0 : Int32)) fun (m5 : xmm) => bX12_sign_144_129 v1 v2 v3 v4 (0 : Int32) m5))) = some z) : bX12_sign_144_92 v1 v2 v3 v4 m = some z := by
  refine xstI ?_
  show xT 237 7 92 [(0, .ref 144), (1, .int v1), (2, .int v2), (3, .int v3), (4, .int v4)] [] m (some (.int z.1), z.2)
  refine e_iload rfl rfl (xnm_no rfl) ?_
  refine e_aload_n rfl rfl rfl (xnm_no rfl) ?_
  refine e_getI rfl rfl rfl rfl (xnm_no rfl) ?_
  refine e_icmp_ge (t := 202) rfl rfl (xnm_no rfl) (xnm_no rfl) h (fun h => ?_) (fun h => ?_)
  · refine e_iinc (y := 1) rfl rfl rfl (by decide) (xnm_no rfl) ?_
    refine e_goto (t := 81) rfl rfl rfl ?_
    exact xlfI h
  · refine e_aload_n rfl rfl rfl (xnm_no rfl) ?_
    refine e_getR (r := 164) rfl rfl rfl rfl rfl (xnm_no rfl) ?_
    refine e_iload_n rfl rfl (xnm_no rfl) ?_
    obtain ⟨g1, h⟩ := xgd_some h
    refine e_iald rfl g1 (xnm_no rfl) ?_
    refine e_iload rfl rfl (xnm_no rfl) ?_
    obtain ⟨w2, hw3, h⟩ := xbd_some h
    refine e_cIS (hc := hw3) (rest := []) rfl rfl rfl rfl rfl rfl rfl rfl (xnm_no rfl) ?_
    refine e_if_ne (t := 118) rfl rfl (xnm_no rfl) (xnm_no rfl) h (fun h => ?_) (fun h => ?_)
    · refine e_aload_n rfl rfl rfl (xnm_no rfl) ?_
      refine e_getR (r := 177) rfl rfl rfl rfl rfl (xnm_no rfl) ?_
      refine e_iload rfl rfl (xnm_no rfl) ?_
      refine e_iconst (x := 0) rfl (by decide) (xnm_no rfl) ?_
      obtain ⟨g4, h⟩ := xgd_some h
      refine e_iast rfl g4 (xnm_no rfl) ?_
      replace h := xlt_b h
      refine e_iconst (x := 0) rfl (by decide) (xnm_no rfl) ?_
      refine e_istore rfl rfl rfl ?_
      exact xlfI h
    · refine e_goto (t := 196) rfl rfl (xnm_no rfl) ?_
      refine e_iinc (y := 1) rfl rfl rfl (by decide) (xnm_no rfl) ?_
      refine e_goto (t := 92) rfl rfl rfl ?_
      exact xlfI h
set_option maxRecDepth 4000 in
theorem bX12_sign_144_129_i (v1 : Int32) (v2 : Int32) (v3 : Int32) (v4 : Int32) (v5 : Int32) (m : xmm) {z : Int32 × xmm} (h : (if (m.1 144 17) ≤ v5 then bX12_sign_144_92 v1 v2 v3 (v4 + (1 : Int32)) m else xgd (xinb 8 v4) ((fX12_has (m.1 165 (v4).toNatClampNeg) v5 m).bind fun (w2 : Int32 × xmm) => if w2.1 = 0 then bX12_sign_144_129 v1 v2 v3 v4 (v5 + (1 : Int32)) w2.2 else if v5 = v1 then bX12_sign_144_173 v1 v2 v3 v4 v5 w2.2 else xgd (xinb 8 v1) ((fX12_has (w2.2.1 164 (v1).toNatClampNeg) v5 w2.2).bind fun (w5 : Int32 × xmm) => if w5.1 = 0 then bX12_sign_144_129 v1 v2 v3 v4 (v5 + (1 : Int32)) w5.2 else bX12_sign_144_173 v1 v2 v3 v4 v5 w5.2))) = some z) : bX12_sign_144_129 v1 v2 v3 v4 v5 m = some z := by
  refine xstI ?_
  show xT 237 7 129 [(0, .ref 144), (1, .int v1), (2, .int v2), (3, .int v3), (4, .int v4), (5, .int v5)] [] m (some (.int z.1), z.2)
  refine e_iload rfl rfl (xnm_no rfl) ?_
  refine e_aload_n rfl rfl rfl (xnm_no rfl) ?_
  refine e_getI rfl rfl rfl rfl (xnm_no rfl) ?_
  refine e_icmp_ge (t := 196) rfl rfl (xnm_no rfl) (xnm_no rfl) h (fun h => ?_) (fun h => ?_)
  · refine e_iinc (y := 1) rfl rfl rfl (by decide) (xnm_no rfl) ?_
    refine e_goto (t := 92) rfl rfl rfl ?_
    exact xlfI h
  · refine e_aload_n rfl rfl rfl (xnm_no rfl) ?_
    refine e_getR (r := 165) rfl rfl rfl rfl rfl (xnm_no rfl) ?_
    refine e_iload rfl rfl (xnm_no rfl) ?_
    obtain ⟨g1, h⟩ := xgd_some h
    refine e_iald rfl g1 (xnm_no rfl) ?_
    refine e_iload rfl rfl (xnm_no rfl) ?_
    obtain ⟨w2, hw3, h⟩ := xbd_some h
    refine e_cIS (hc := hw3) (rest := []) rfl rfl rfl rfl rfl rfl rfl rfl (xnm_no rfl) ?_
    refine e_if_eq (t := 190) rfl rfl (xnm_no rfl) (xnm_no rfl) h (fun h => ?_) (fun h => ?_)
    · refine e_iinc (y := 1) rfl rfl rfl (by decide) (xnm_no rfl) ?_
      refine e_goto (t := 129) rfl rfl rfl ?_
      exact xlfI h
    · refine e_iload rfl rfl (xnm_no rfl) ?_
      refine e_iload_n rfl rfl (xnm_no rfl) ?_
      refine e_icmp_eq (t := 173) rfl rfl rfl (xnm_no rfl) h (fun h => ?_) (fun h => ?_)
      · exact xlfI h
      · refine e_aload_n rfl rfl rfl (xnm_no rfl) ?_
        refine e_getR (r := 164) rfl rfl rfl rfl rfl (xnm_no rfl) ?_
        refine e_iload_n rfl rfl (xnm_no rfl) ?_
        obtain ⟨g4, h⟩ := xgd_some h
        refine e_iald rfl g4 (xnm_no rfl) ?_
        refine e_iload rfl rfl (xnm_no rfl) ?_
        obtain ⟨w5, hw6, h⟩ := xbd_some h
        refine e_cIS (hc := hw6) (rest := []) rfl rfl rfl rfl rfl rfl rfl rfl (xnm_no rfl) ?_
        refine e_if_eq (t := 190) rfl rfl (xnm_no rfl) rfl h (fun h => ?_) (fun h => ?_)
        · refine e_iinc (y := 1) rfl rfl rfl (by decide) (xnm_no rfl) ?_
          refine e_goto (t := 129) rfl rfl rfl ?_
          exact xlfI h
        · exact xlfI h
set_option maxRecDepth 4000 in
theorem bX12_sign_144_173_i (v1 : Int32) (v2 : Int32) (v3 : Int32) (v4 : Int32) (v5 : Int32) (m : xmm) {z : Int32 × xmm} (h : (xgd (xinb 8 v4) (xgd (xinb 8 v5) (xlt (xwi m 177 (v4).toNatClampNeg ((m.1 177 (v4).toNatClampNeg) - (m.1 177 (v5).toNatClampNeg))) fun (m3 : xmm) => bX12_sign_144_129 v1 v2 v3 v4 (v5 + (1 : Int32)) m3))) = some z) : bX12_sign_144_173 v1 v2 v3 v4 v5 m = some z := by
  refine xstI ?_
  show xT 237 7 173 [(0, .ref 144), (1, .int v1), (2, .int v2), (3, .int v3), (4, .int v4), (5, .int v5)] [] m (some (.int z.1), z.2)
  refine e_aload_n rfl rfl rfl (xnm_no rfl) ?_
  refine e_getR (r := 177) rfl rfl rfl rfl rfl (xnm_no rfl) ?_
  refine e_iload rfl rfl (xnm_no rfl) ?_
  refine e_dup2 rfl rfl rfl (xnm_no rfl) ?_
  obtain ⟨g1, h⟩ := xgd_some h
  refine e_iald rfl g1 (xnm_no rfl) ?_
  refine e_aload_n rfl rfl rfl (xnm_no rfl) ?_
  refine e_getR (r := 177) rfl rfl rfl rfl rfl (xnm_no rfl) ?_
  refine e_iload rfl rfl (xnm_no rfl) ?_
  obtain ⟨g2, h⟩ := xgd_some h
  refine e_iald rfl g2 (xnm_no rfl) ?_
  refine e_isub rfl (xnm_no rfl) ?_
  refine e_iast rfl g1 (xnm_no rfl) ?_
  replace h := xlt_b h
  refine e_iinc (y := 1) rfl rfl rfl (by decide) (xnm_no rfl) ?_
  refine e_goto (t := 129) rfl rfl rfl ?_
  exact xlfI h
set_option maxRecDepth 4000 in
theorem fX10_part_i (v0 : Nat) (v1 : Nat) (v2 : Nat) (v3 : Int32) (v4 : Int32) (v5 : Int32) (m : xmm) {z : xmm} (h : (if v4 ≤ v3 then bX10_part_12 (xrk 113 [.ref v0, .ref v1, .ref v2, .int v3, .int v4, .int v5]) v2 v5 m else if v3 < (8 : Int32) then bX10_part_24 (xrk 113 [.ref v0, .ref v1, .ref v2, .int v3, .int v4, .int v5]) v0 v1 v2 v3 v4 v5 (0 : Int32) m else bX10_part_12 (xrk 113 [.ref v0, .ref v1, .ref v2, .int v3, .int v4, .int v5]) v2 v5 m) = some z) : fX10_part v0 v1 v2 v3 v4 v5 m = some z := by
  refine xstV ?_
  show xT 113 (xrk 113 [.ref v0, .ref v1, .ref v2, .int v3, .int v4, .int v5]) 0 [(0, .ref v0), (1, .ref v1), (2, .ref v2), (3, .int v3), (4, .int v4), (5, .int v5)] [] m (none, z)
  refine e_iload_n rfl rfl (xnm_no rfl) ?_
  refine e_iload rfl rfl (xnm_no rfl) ?_
  refine e_icmp_ge (t := 12) rfl rfl rfl (xnm_no rfl) h (fun h => ?_) (fun h => ?_)
  · exact xlfV h
  · refine e_iload_n rfl rfl (xnm_no rfl) ?_
    refine e_bipush (x := 8) rfl (by decide) (xnm_no rfl) ?_
    refine e_icmp_lt (t := 21) rfl rfl (xnm_no rfl) rfl h (fun h => ?_) (fun h => ?_)
    · refine e_iconst (x := 0) rfl (by decide) (xnm_no rfl) ?_
      refine e_istore rfl rfl rfl ?_
      exact xlfV h
    · exact xlfV h
set_option maxRecDepth 4000 in
theorem bX10_part_12_i (rk : Nat) (v2 : Nat) (v5 : Int32) (m : xmm) {z : xmm} (h : (xgd (!(Nat.beq v2 1999)) (xgd (xia 1 v2 v5) (xlt (xwi m v2 (v5).toNatClampNeg ((m.1 v2 (v5).toNatClampNeg) + (1 : Int32))) fun (m3 : xmm) => some m3))) = some z) : bX10_part_12 rk v2 v5 m = some z := by
  refine xstV ?_
  show xT 113 rk 12 [(2, .ref v2), (5, .int v5)] [] m (none, z)
  obtain ⟨g1, h⟩ := xgd_some h
  refine e_aload_n rfl rfl (xnb g1) (xnm_no rfl) ?_
  refine e_iload rfl rfl (xnm_no rfl) ?_
  refine e_dup2 rfl rfl rfl (xnm_no rfl) ?_
  obtain ⟨g2, h⟩ := xgd_some h
  refine e_iald rfl g2 (xnm_no rfl) ?_
  refine e_iconst (x := 1) rfl (by decide) (xnm_no rfl) ?_
  refine e_iadd rfl (xnm_no rfl) ?_
  refine e_iast rfl g2 (xnm_no rfl) ?_
  replace h := xlt_b h
  cases h
  exact e_retV rfl rfl
set_option maxRecDepth 4000 in
theorem bX10_part_24_i (rk : Nat) (v0 : Nat) (v1 : Nat) (v2 : Nat) (v3 : Int32) (v4 : Int32) (v5 : Int32) (v6 : Int32) (m : xmm) {z : xmm} (h : (if v5 < v6 then some m else if (8 : Int32) ≤ v6 then some m else xgd (!(Nat.beq v1 1999)) (xgd (xia 1 v1 v6) (xgd (!(Nat.beq v0 1999)) (xgd (xia 1 v0 v3) (if ((m.1 v1 (v6).toNatClampNeg) &&& (m.1 v0 (v3).toNatClampNeg)) = 0 then xlt (xwi m v1 (v6).toNatClampNeg ((m.1 v1 (v6).toNatClampNeg) ||| ((1 : Int32) <<< (v3 &&& 31)))) fun (m5 : xmm) => xgd (!(Nat.beq v2 1999)) (if v6 = v5 then bX10_part_83 rk v0 v1 v2 v3 v4 v5 v6 v0 v1 v2 (v3 + (1 : Int32)) v4 (v5 + (1 : Int32)) m5 else bX10_part_83 rk v0 v1 v2 v3 v4 v5 v6 v0 v1 v2 (v3 + (1 : Int32)) v4 v5 m5) else bX10_part_24 rk v0 v1 v2 v3 v4 v5 (v6 + (1 : Int32)) m))))) = some z) : bX10_part_24 rk v0 v1 v2 v3 v4 v5 v6 m = some z := by
  refine xstV ?_
  show xT 113 rk 24 [(0, .ref v0), (1, .ref v1), (2, .ref v2), (3, .int v3), (4, .int v4), (5, .int v5), (6, .int v6)] [] m (none, z)
  refine e_iload rfl rfl (xnm_no rfl) ?_
  refine e_iload rfl rfl (xnm_no rfl) ?_
  refine e_icmp_gt (t := 104) rfl rfl (xnm_no rfl) (xnm_no rfl) h (fun h => ?_) (fun h => ?_)
  · cases h
    exact e_retV rfl rfl
  · refine e_iload rfl rfl (xnm_no rfl) ?_
    refine e_bipush (x := 8) rfl (by decide) (xnm_no rfl) ?_
    refine e_icmp_ge (t := 104) rfl rfl (xnm_no rfl) (xnm_no rfl) h (fun h => ?_) (fun h => ?_)
    · cases h
      exact e_retV rfl rfl
    · obtain ⟨g1, h⟩ := xgd_some h
      refine e_aload_n rfl rfl (xnb g1) (xnm_no rfl) ?_
      refine e_iload rfl rfl (xnm_no rfl) ?_
      obtain ⟨g2, h⟩ := xgd_some h
      refine e_iald rfl g2 (xnm_no rfl) ?_
      obtain ⟨g3, h⟩ := xgd_some h
      refine e_aload_n rfl rfl (xnb g3) (xnm_no rfl) ?_
      refine e_iload_n rfl rfl (xnm_no rfl) ?_
      obtain ⟨g4, h⟩ := xgd_some h
      refine e_iald rfl g4 (xnm_no rfl) ?_
      refine e_iand rfl (xnm_no rfl) ?_
      refine e_if_ne (t := 98) rfl rfl (xnm_no rfl) (xnm_no rfl) h (fun h => ?_) (fun h => ?_)
      · refine e_iinc (y := 1) rfl rfl rfl (by decide) (xnm_no rfl) ?_
        refine e_goto (t := 24) rfl rfl rfl ?_
        exact xlfV h
      · refine e_aload_n rfl rfl (xnb g1) (xnm_no rfl) ?_
        refine e_iload rfl rfl (xnm_no rfl) ?_
        refine e_dup2 rfl rfl rfl (xnm_no rfl) ?_
        refine e_iald rfl g2 (xnm_no rfl) ?_
        refine e_iconst (x := 1) rfl (by decide) (xnm_no rfl) ?_
        refine e_iload_n rfl rfl (xnm_no rfl) ?_
        refine e_ishl rfl (xnm_no rfl) ?_
        refine e_ior rfl (xnm_no rfl) ?_
        refine e_iast rfl g2 (xnm_no rfl) ?_
        replace h := xlt_b h
        refine e_aload_n rfl rfl (xnb g3) (xnm_no rfl) ?_
        refine e_aload_n rfl rfl (xnb g1) (xnm_no rfl) ?_
        obtain ⟨g6, h⟩ := xgd_some h
        refine e_aload_n rfl rfl (xnb g6) (xnm_no rfl) ?_
        refine e_iload_n rfl rfl (xnm_no rfl) ?_
        refine e_iconst (x := 1) rfl (by decide) (xnm_no rfl) ?_
        refine e_iadd rfl (xnm_no rfl) ?_
        refine e_iload rfl rfl (xnm_no rfl) ?_
        refine e_iload rfl rfl (xnm_no rfl) ?_
        refine e_iload rfl rfl (xnm_no rfl) ?_
        refine e_icmp_ne (t := 81) rfl rfl (xnm_no rfl) (xnm_no rfl) h (fun h => ?_) (fun h => ?_)
        · refine e_iload rfl rfl rfl ?_
          exact xlfV h
        · refine e_iload rfl rfl (xnm_no rfl) ?_
          refine e_iconst (x := 1) rfl (by decide) (xnm_no rfl) ?_
          refine e_iadd rfl (xnm_no rfl) ?_
          refine e_goto (t := 83) rfl rfl rfl ?_
          exact xlfV h
set_option maxRecDepth 4000 in
theorem bX10_part_83_i (rk : Nat) (v0 : Nat) (v1 : Nat) (v2 : Nat) (v3 : Int32) (v4 : Int32) (v5 : Int32) (v6 : Int32) (s0 : Nat) (s1 : Nat) (s2 : Nat) (s3 : Int32) (s4 : Int32) (s5 : Int32) (m : xmm) {z : xmm} (h : (xgd (xcg 113 rk 113 [.ref s0, .ref s1, .ref s2, .int s3, .int s4, .int s5] []) ((fX10_part s0 s1 s2 s3 s4 s5 m).bind fun (w1 : xmm) => xgd (!(Nat.beq v1 1999)) (xgd (xia 1 v1 v6) (xlt (xwi w1 v1 (v6).toNatClampNeg ((w1.1 v1 (v6).toNatClampNeg) &&& (((1 : Int32) <<< (v3 &&& 31)) ^^^ (-1 : Int32)))) fun (m6 : xmm) => bX10_part_24 rk v0 v1 v2 v3 v4 v5 (v6 + (1 : Int32)) m6)))) = some z) : bX10_part_83 rk v0 v1 v2 v3 v4 v5 v6 s0 s1 s2 s3 s4 s5 m = some z := by
  refine xstV ?_
  show xT 113 rk 83 [(0, .ref v0), (1, .ref v1), (2, .ref v2), (3, .int v3), (4, .int v4), (5, .int v5), (6, .int v6)] [.int s5, .int s4, .int s3, .ref s2, .ref s1, .ref s0] m (none, z)
  obtain ⟨g3, h⟩ := xgd_some h
  obtain ⟨w1, hw2, h⟩ := xbd_some h
  refine e_cVS (hc := hw2) (rest := []) rfl rfl rfl rfl rfl rfl g3 rfl (xnm_no rfl) ?_
  obtain ⟨g4, h⟩ := xgd_some h
  refine e_aload_n rfl rfl (xnb g4) (xnm_no rfl) ?_
  refine e_iload rfl rfl (xnm_no rfl) ?_
  refine e_dup2 rfl rfl rfl (xnm_no rfl) ?_
  obtain ⟨g5, h⟩ := xgd_some h
  refine e_iald rfl g5 (xnm_no rfl) ?_
  refine e_iconst (x := 1) rfl (by decide) (xnm_no rfl) ?_
  refine e_iload_n rfl rfl (xnm_no rfl) ?_
  refine e_ishl rfl (xnm_no rfl) ?_
  refine e_iconst (x := -1) rfl (by decide) (xnm_no rfl) ?_
  refine e_ixor rfl (xnm_no rfl) ?_
  refine e_iand rfl (xnm_no rfl) ?_
  refine e_iast rfl g5 (xnm_no rfl) ?_
  replace h := xlt_b h
  refine e_iinc (y := 1) rfl rfl rfl (by decide) (xnm_no rfl) ?_
  refine e_goto (t := 24) rfl rfl rfl ?_
  exact xlfV h
set_option maxRecDepth 4000 in
theorem fX10_colourings_132_10_i (v2 : Int32) (m : xmm) {z : Int32 × xmm} (h : ((fX10_clearGroups_132 m).bind fun (w1 : xmm) => bX10_colourings_132_10_6 v2 (0 : Int32) w1) = some z) : fX10_colourings_132_10 v2 m = some z := by
  refine xstI ?_
  show xT 112 10 0 [(0, .ref 132), (1, .ref 10), (2, .int v2)] [] m (some (.int z.1), z.2)
  refine e_aload_n rfl rfl rfl (xnm_no rfl) ?_
  obtain ⟨w1, hw2, h⟩ := xbd_some h
  refine e_cVV (hc := hw2) (rest := []) rfl rfl rfl rfl rfl rfl rfl rfl (xnm_no rfl) ?_
  refine e_iconst (x := 0) rfl (by decide) (xnm_no rfl) ?_
  refine e_istore_n rfl rfl rfl ?_
  exact xlfI h
set_option maxRecDepth 4000 in
theorem bX10_colourings_132_10_6_i (v2 : Int32) (v3 : Int32) (m : xmm) {z : Int32 × xmm} (h : (if (8 : Int32) < v3 then xgd (xcg 112 10 113 [.ref 11, .ref 133, .ref 135, .int (0 : Int32), .int (if (8 : Int32) < (m.1 10 0) then (8 : Int32) else (m.1 10 0)), .int (0 : Int32)] []) ((fX10_part 11 133 135 (0 : Int32) (if (8 : Int32) < (m.1 10 0) then (8 : Int32) else (m.1 10 0)) (0 : Int32) m).bind fun (w1 : xmm) => bX10_colourings_132_10_59 v2 (0 : Int32) (1 : Int32) (0 : Int32) w1) else xgd (xinb 9 v3) (xlt (xwi m 135 (v3).toNatClampNeg (0 : Int32)) fun (m5 : xmm) => bX10_colourings_132_10_6 v2 (v3 + (1 : Int32)) m5)) = some z) : bX10_colourings_132_10_6 v2 v3 m = some z := by
  refine xstI ?_
  show xT 112 10 6 [(0, .ref 132), (1, .ref 10), (2, .int v2), (3, .int v3)] [] m (some (.int z.1), z.2)
  refine e_iload_n rfl rfl (xnm_no rfl) ?_
  refine e_bipush (x := 8) rfl (by decide) (xnm_no rfl) ?_
  refine e_icmp_gt (t := 25) rfl rfl (xnm_no rfl) (xnm_no rfl) h (fun h => ?_) (fun h => ?_)
  · refine e_aload_n rfl rfl rfl (xnm_no rfl) ?_
    refine e_getR (r := 11) rfl rfl rfl rfl rfl (xnm_no rfl) ?_
    refine e_aload_n rfl rfl rfl (xnm_no rfl) ?_
    refine e_getR (r := 133) rfl rfl rfl rfl rfl (xnm_no rfl) ?_
    refine e_aload_n rfl rfl rfl (xnm_no rfl) ?_
    refine e_getR (r := 135) rfl rfl rfl rfl rfl (xnm_no rfl) ?_
    refine e_iconst (x := 0) rfl (by decide) (xnm_no rfl) ?_
    refine e_aload_n rfl rfl rfl (xnm_no rfl) ?_
    refine e_getI rfl rfl rfl rfl (xnm_no rfl) ?_
    refine e_bipush (x := 8) rfl (by decide) (xnm_no rfl) ?_
    refine e_min rfl rfl rfl (xnm_no rfl) ?_
    refine e_iconst (x := 0) rfl (by decide) (xnm_no rfl) ?_
    obtain ⟨g3, h⟩ := xgd_some h
    obtain ⟨w1, hw2, h⟩ := xbd_some h
    refine e_cVS (hc := hw2) (rest := []) rfl rfl rfl rfl rfl rfl g3 rfl (xnm_no rfl) ?_
    refine e_iconst (x := 0) rfl (by decide) (xnm_no rfl) ?_
    refine e_istore_n rfl rfl (xnm_no rfl) ?_
    refine e_iconst (x := 1) rfl (by decide) (xnm_no rfl) ?_
    refine e_istore rfl rfl (xnm_no rfl) ?_
    refine e_iconst (x := 0) rfl (by decide) (xnm_no rfl) ?_
    refine e_istore rfl rfl rfl ?_
    exact xlfI h
  · refine e_aload_n rfl rfl rfl (xnm_no rfl) ?_
    refine e_getR (r := 135) rfl rfl rfl rfl rfl (xnm_no rfl) ?_
    refine e_iload_n rfl rfl (xnm_no rfl) ?_
    refine e_iconst (x := 0) rfl (by decide) (xnm_no rfl) ?_
    obtain ⟨g4, h⟩ := xgd_some h
    refine e_iast rfl g4 (xnm_no rfl) ?_
    replace h := xlt_b h
    refine e_iinc (y := 1) rfl rfl rfl (by decide) (xnm_no rfl) ?_
    refine e_goto (t := 6) rfl rfl rfl ?_
    exact xlfI h
set_option maxRecDepth 4000 in
theorem bX10_colourings_132_10_59_i (v2 : Int32) (v3 : Int32) (v4 : Int32) (v5 : Int32) (m : xmm) {z : Int32 × xmm} (h : (if (8 : Int32) < v5 then some (v3, m) else xgd (xinb 9 v5) (bX10_colourings_132_10_59 v2 (v3 + (v4 * (m.1 135 (v5).toNatClampNeg))) (v4 * (v2 - v5)) (v5 + (1 : Int32)) m)) = some z) : bX10_colourings_132_10_59 v2 v3 v4 v5 m = some z := by
  refine xstI ?_
  show xT 112 10 59 [(0, .ref 132), (2, .int v2), (3, .int v3), (4, .int v4), (5, .int v5)] [] m (some (.int z.1), z.2)
  refine e_iload rfl rfl (xnm_no rfl) ?_
  refine e_bipush (x := 8) rfl (by decide) (xnm_no rfl) ?_
  refine e_icmp_gt (t := 94) rfl rfl (xnm_no rfl) (xnm_no rfl) h (fun h => ?_) (fun h => ?_)
  · refine e_iload_n rfl rfl (xnm_no rfl) ?_
    cases h
    exact e_retI rfl rfl
  · refine e_iload_n rfl rfl (xnm_no rfl) ?_
    refine e_iload rfl rfl (xnm_no rfl) ?_
    refine e_aload_n rfl rfl rfl (xnm_no rfl) ?_
    refine e_getR (r := 135) rfl rfl rfl rfl rfl (xnm_no rfl) ?_
    refine e_iload rfl rfl (xnm_no rfl) ?_
    obtain ⟨g1, h⟩ := xgd_some h
    refine e_iald rfl g1 (xnm_no rfl) ?_
    refine e_imul rfl (xnm_no rfl) ?_
    refine e_iadd rfl (xnm_no rfl) ?_
    refine e_istore_n rfl rfl (xnm_no rfl) ?_
    refine e_iload rfl rfl (xnm_no rfl) ?_
    refine e_iload_n rfl rfl (xnm_no rfl) ?_
    refine e_iload rfl rfl (xnm_no rfl) ?_
    refine e_isub rfl (xnm_no rfl) ?_
    refine e_imul rfl (xnm_no rfl) ?_
    refine e_istore rfl rfl (xnm_no rfl) ?_
    refine e_iinc (y := 1) rfl rfl rfl (by decide) (xnm_no rfl) ?_
    refine e_goto (t := 59) rfl rfl rfl ?_
    exact xlfI h
set_option maxRecDepth 4000 in
theorem fX11_colours_0_i (v1 : Int32) (m : xmm) {z : Int32 × xmm} (h : (if v1 < 0 then some ((-1 : Int32), m) else if v1 ≤ (9 : Int32) then (fX10_colourings_132_10 v1 m).bind fun (w1 : Int32 × xmm) => some (w1.1, w1.2) else some ((-1 : Int32), m)) = some z) : fX11_colours_0 v1 m = some z := by
  refine xstI ?_
  show xT 138 11 0 [(0, .ref 0), (1, .int v1)] [] m (some (.int z.1), z.2)
  refine e_iload_n rfl rfl (xnm_no rfl) ?_
  refine e_if_lt (t := 10) rfl rfl (xnm_no rfl) (xnm_no rfl) h (fun h => ?_) (fun h => ?_)
  · refine e_iconst (x := -1) rfl (by decide) (xnm_no rfl) ?_
    cases h
    exact e_retI rfl rfl
  · refine e_iload_n rfl rfl (xnm_no rfl) ?_
    refine e_bipush (x := 9) rfl (by decide) (xnm_no rfl) ?_
    refine e_icmp_le (t := 12) rfl rfl (xnm_no rfl) (xnm_no rfl) h (fun h => ?_) (fun h => ?_)
    · refine e_aload_n rfl rfl rfl (xnm_no rfl) ?_
      refine e_getR (r := 132) rfl rfl rfl rfl rfl (xnm_no rfl) ?_
      refine e_aload_n rfl rfl rfl (xnm_no rfl) ?_
      refine e_getR (r := 10) rfl rfl rfl rfl rfl (xnm_no rfl) ?_
      refine e_iload_n rfl rfl (xnm_no rfl) ?_
      obtain ⟨w1, hw2, h⟩ := xbd_some h
      refine e_cIV (hc := hw2) (rest := []) rfl rfl rfl rfl rfl rfl rfl rfl (xnm_no rfl) ?_
      cases h
      exact e_retI rfl rfl
    · refine e_iconst (x := -1) rfl (by decide) (xnm_no rfl) ?_
      cases h
      exact e_retI rfl rfl
