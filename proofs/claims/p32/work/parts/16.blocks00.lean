set_option maxRecDepth 4000 in
theorem fX3_copyFrom_i (v0 : Nat) (v1 : Nat) (m : xmm) {z : xmm} (h : (xgd (!(Nat.beq v0 1999)) (xgd (!(Nat.beq v1 1999)) (xgd (xob v1 3) (xgd (xob v0 3) (xlt (xwi m v0 0 (m.1 v1 0)) fun (m5 : xmm) => xgd (xz01 (m5.1 v1 1)) (xlt (xwi m5 v0 1 (m5.1 v1 1)) fun (m7 : xmm) => bX3_copyFrom_18 v0 v1 (0 : Int32) m7)))))) = some z) : fX3_copyFrom v0 v1 m = some z := by
  refine xstV ?_
  show xT 32 0 0 [(0, .ref v0), (1, .ref v1)] [] m (none, z)
  obtain ⟨g1, h⟩ := xgd_some h
  refine e_aload_n rfl rfl (xnb g1) (xnm_no rfl) ?_
  obtain ⟨g2, h⟩ := xgd_some h
  refine e_aload_n rfl rfl (xnb g2) (xnm_no rfl) ?_
  obtain ⟨g3, h⟩ := xgd_some h
  refine e_getI rfl rfl rfl g3 (xnm_no rfl) ?_
  obtain ⟨g4, h⟩ := xgd_some h
  refine e_putI rfl rfl rfl g4 (xnm_no rfl) ?_
  replace h := xlt_b h
  refine e_aload_n rfl rfl (xnb g1) (xnm_no rfl) ?_
  refine e_aload_n rfl rfl (xnb g2) (xnm_no rfl) ?_
  refine e_getI rfl rfl rfl g3 (xnm_no rfl) ?_
  obtain ⟨g6, h⟩ := xgd_some h
  refine e_putI rfl rfl g6 g4 (xnm_no rfl) ?_
  replace h := xlt_b h
  refine e_iconst (x := 0) rfl (by decide) (xnm_no rfl) ?_
  refine e_istore_n rfl rfl rfl ?_
  exact xlfV h
set_option maxRecDepth 4000 in
theorem bX3_copyFrom_18_i (v0 : Nat) (v1 : Nat) (v2 : Int32) (m : xmm) {z : xmm} (h : (if (8 : Int32) ≤ v2 then some m else xgd (!(Nat.beq v0 1999)) (xgd (xob v0 3) (xgr (xR0 v0 2) fun r3 => xgd (!(Nat.beq v1 1999)) (xgd (xob v1 3) (xgr (xR0 v1 2) fun r7 => xgd (xia 1 r7 v2) (xgd (xia 1 r3 v2) (xlt (xwi m r3 (v2).toNatClampNeg (m.1 r7 (v2).toNatClampNeg)) fun (m11 : xmm) => bX3_copyFrom_18 v0 v1 (v2 + (1 : Int32)) m11))))))) = some z) : bX3_copyFrom_18 v0 v1 v2 m = some z := by
  refine xstV ?_
  show xT 32 0 18 [(0, .ref v0), (1, .ref v1), (2, .int v2)] [] m (none, z)
  refine e_iload_n rfl rfl (xnm_no rfl) ?_
  refine e_bipush (x := 8) rfl (by decide) (xnm_no rfl) ?_
  refine e_icmp_ge (t := 42) rfl rfl (xnm_no rfl) (xnm_no rfl) h (fun h => ?_) (fun h => ?_)
  · cases h
    exact e_retV rfl rfl
  · obtain ⟨g1, h⟩ := xgd_some h
    refine e_aload_n rfl rfl (xnb g1) (xnm_no rfl) ?_
    obtain ⟨g2, h⟩ := xgd_some h
    obtain ⟨r3, hr4, h⟩ := xgr_some h
    refine e_getR rfl rfl rfl g2 hr4 (xnm_no rfl) ?_
    refine e_iload_n rfl rfl (xnm_no rfl) ?_
    obtain ⟨g5, h⟩ := xgd_some h
    refine e_aload_n rfl rfl (xnb g5) (xnm_no rfl) ?_
    obtain ⟨g6, h⟩ := xgd_some h
    obtain ⟨r7, hr8, h⟩ := xgr_some h
    refine e_getR rfl rfl rfl g6 hr8 (xnm_no rfl) ?_
    refine e_iload_n rfl rfl (xnm_no rfl) ?_
    obtain ⟨g9, h⟩ := xgd_some h
    refine e_iald rfl g9 (xnm_no rfl) ?_
    obtain ⟨g10, h⟩ := xgd_some h
    refine e_iast rfl g10 (xnm_no rfl) ?_
    replace h := xlt_b h
    refine e_iinc (y := 1) rfl rfl rfl (by decide) (xnm_no rfl) ?_
    refine e_goto (t := 18) rfl rfl rfl ?_
    exact xlfV h
set_option maxRecDepth 4000 in
theorem fX3_everyPost_i (v0 : Nat) (m : xmm) {z : Int32 × xmm} (h : (xgd (!(Nat.beq v0 1999)) (xgd (xob v0 3) (some ((((1 : Int32) <<< ((m.1 v0 0) &&& 31)) - (1 : Int32)), m)))) = some z) : fX3_everyPost v0 m = some z := by
  refine xstI ?_
  show xT 28 0 0 [(0, .ref v0)] [] m (some (.int z.1), z.2)
  refine e_iconst (x := 1) rfl (by decide) (xnm_no rfl) ?_
  obtain ⟨g1, h⟩ := xgd_some h
  refine e_aload_n rfl rfl (xnb g1) (xnm_no rfl) ?_
  obtain ⟨g2, h⟩ := xgd_some h
  refine e_getI rfl rfl rfl g2 (xnm_no rfl) ?_
  refine e_ishl rfl (xnm_no rfl) ?_
  refine e_iconst (x := 1) rfl (by decide) (xnm_no rfl) ?_
  refine e_isub rfl (xnm_no rfl) ?_
  cases h
  exact e_retI rfl rfl
set_option maxRecDepth 4000 in
theorem fX3_turnOver_i (v0 : Nat) (m : xmm) {z : xmm} (h : (bX3_turnOver_2 v0 (0 : Int32) m) = some z) : fX3_turnOver v0 m = some z := by
  refine xstV ?_
  show xT 35 1 0 [(0, .ref v0)] [] m (none, z)
  refine e_iconst (x := 0) rfl (by decide) (xnm_no rfl) ?_
  refine e_istore_n rfl rfl rfl ?_
  exact xlfV h
set_option maxRecDepth 4000 in
theorem bX3_turnOver_2_i (v0 : Nat) (v1 : Int32) (m : xmm) {z : xmm} (h : (xgd (!(Nat.beq v0 1999)) (xgd (xob v0 3) (if (m.1 v0 0) ≤ v1 then some m else if (8 : Int32) ≤ v1 then some m else xgr (xR0 v0 2) fun r3 => (fX3_everyPost v0 m).bind fun (w5 : Int32 × xmm) => xgd (xia 1 r3 v1) (xlt (xwi w5.2 r3 (v1).toNatClampNeg ((w5.1 &&& ((w5.2.1 r3 (v1).toNatClampNeg) ^^^ (-1 : Int32))) &&& (((1 : Int32) <<< (v1 &&& 31)) ^^^ (-1 : Int32)))) fun (m8 : xmm) => bX3_turnOver_2 v0 (v1 + (1 : Int32)) m8)))) = some z) : bX3_turnOver_2 v0 v1 m = some z := by
  refine xstV ?_
  show xT 35 1 2 [(0, .ref v0), (1, .int v1)] [] m (none, z)
  refine e_iload_n rfl rfl (xnm_no rfl) ?_
  obtain ⟨g1, h⟩ := xgd_some h
  refine e_aload_n rfl rfl (xnb g1) (xnm_no rfl) ?_
  obtain ⟨g2, h⟩ := xgd_some h
  refine e_getI rfl rfl rfl g2 (xnm_no rfl) ?_
  refine e_icmp_ge (t := 47) rfl rfl (xnm_no rfl) (xnm_no rfl) h (fun h => ?_) (fun h => ?_)
  · cases h
    exact e_retV rfl rfl
  · refine e_iload_n rfl rfl (xnm_no rfl) ?_
    refine e_bipush (x := 8) rfl (by decide) (xnm_no rfl) ?_
    refine e_icmp_ge (t := 47) rfl rfl (xnm_no rfl) (xnm_no rfl) h (fun h => ?_) (fun h => ?_)
    · cases h
      exact e_retV rfl rfl
    · refine e_aload_n rfl rfl (xnb g1) (xnm_no rfl) ?_
      obtain ⟨r3, hr4, h⟩ := xgr_some h
      refine e_getR rfl rfl rfl g2 hr4 (xnm_no rfl) ?_
      refine e_iload_n rfl rfl (xnm_no rfl) ?_
      refine e_aload_n rfl rfl (xnb g1) (xnm_no rfl) ?_
      obtain ⟨w5, hw6, h⟩ := xbd_some h
      refine e_cIV (hc := hw6) (rest := [.int _, .ref _]) rfl rfl rfl rfl rfl (xorb g2) rfl rfl (xnm_no rfl) ?_
      refine e_aload_n rfl rfl (xnb g1) (xnm_no rfl) ?_
      refine e_getR rfl rfl rfl g2 hr4 (xnm_no rfl) ?_
      refine e_iload_n rfl rfl (xnm_no rfl) ?_
      obtain ⟨g7, h⟩ := xgd_some h
      refine e_iald rfl g7 (xnm_no rfl) ?_
      refine e_iconst (x := -1) rfl (by decide) (xnm_no rfl) ?_
      refine e_ixor rfl (xnm_no rfl) ?_
      refine e_iand rfl (xnm_no rfl) ?_
      refine e_iconst (x := 1) rfl (by decide) (xnm_no rfl) ?_
      refine e_iload_n rfl rfl (xnm_no rfl) ?_
      refine e_ishl rfl (xnm_no rfl) ?_
      refine e_iconst (x := -1) rfl (by decide) (xnm_no rfl) ?_
      refine e_ixor rfl (xnm_no rfl) ?_
      refine e_iand rfl (xnm_no rfl) ?_
      refine e_iast rfl g7 (xnm_no rfl) ?_
      replace h := xlt_b h
      refine e_iinc (y := 1) rfl rfl rfl (by decide) (xnm_no rfl) ?_
      refine e_goto (t := 2) rfl rfl rfl ?_
      exact xlfV h
set_option maxRecDepth 4000 in
theorem fX11_contains_i (v0 : Int32) (v1 : Int32) (m : xmm) {z : Int32 × xmm} (h : (if ((v0 >>> (v1 &&& 31)) &&& (1 : Int32)) = (1 : Int32) then some ((1 : Int32), m) else some ((0 : Int32), m)) = some z) : fX11_contains v0 v1 m = some z := by
  refine xstI ?_
  show xT 146 0 0 [(0, .int v0), (1, .int v1)] [] m (some (.int z.1), z.2)
  refine e_iload_n rfl rfl (xnm_no rfl) ?_
  refine e_iload_n rfl rfl (xnm_no rfl) ?_
  refine e_ishr rfl (xnm_no rfl) ?_
  refine e_iconst (x := 1) rfl (by decide) (xnm_no rfl) ?_
  refine e_iand rfl (xnm_no rfl) ?_
  refine e_iconst (x := 1) rfl (by decide) (xnm_no rfl) ?_
  refine e_icmp_ne (t := 13) rfl rfl (xnm_no rfl) (xnm_no rfl) h (fun h => ?_) (fun h => ?_)
  · refine e_iconst (x := 0) rfl (by decide) (xnm_no rfl) ?_
    cases h
    exact e_retI rfl (by decide)
  · refine e_iconst (x := 1) rfl (by decide) (xnm_no rfl) ?_
    refine e_goto (t := 14) rfl rfl (xnm_no rfl) ?_
    cases h
    exact e_retI rfl (by decide)
set_option maxRecDepth 4000 in
theorem fX11_isArrow_i (v0 : Nat) (v1 : Int32) (m : xmm) {z : Int32 × xmm} (h : (xgd (!(Nat.beq v0 1999)) (xgd (xia 1 v0 (v1 / (8 : Int32))) ((fX11_contains (m.1 v0 ((v1 / (8 : Int32))).toNatClampNeg) (v1 - v1 / (8 : Int32) * (8 : Int32)) m).bind fun (w3 : Int32 × xmm) => xgd (xz01 w3.1) (some (w3.1, w3.2))))) = some z) : fX11_isArrow v0 v1 m = some z := by
  refine xstI ?_
  show xT 147 1 0 [(0, .ref v0), (1, .int v1)] [] m (some (.int z.1), z.2)
  obtain ⟨g1, h⟩ := xgd_some h
  refine e_aload_n rfl rfl (xnb g1) (xnm_no rfl) ?_
  refine e_iload_n rfl rfl (xnm_no rfl) ?_
  refine e_bipush (x := 8) rfl (by decide) (xnm_no rfl) ?_
  refine e_idiv rfl (by decide) (xnm_no rfl) ?_
  obtain ⟨g2, h⟩ := xgd_some h
  refine e_iald rfl g2 (xnm_no rfl) ?_
  refine e_iload_n rfl rfl (xnm_no rfl) ?_
  refine e_bipush (x := 8) rfl (by decide) (xnm_no rfl) ?_
  refine e_irem rfl (by decide) (xnm_no rfl) ?_
  obtain ⟨w3, hw4, h⟩ := xbd_some h
  refine e_cIS (hc := hw4) (rest := []) rfl rfl rfl rfl rfl rfl rfl rfl (xnm_no rfl) ?_
  obtain ⟨g5, h⟩ := xgd_some h
  cases h
  exact e_retI rfl g5
set_option maxRecDepth 4000 in
theorem fX6_reach_98_i (v1 : Int32) (v2 : Int32) (m : xmm) {z : xmm} (h : (xgd (xinb 64 v1) (if (m.1 99 (v1).toNatClampNeg) = (-1 : Int32) then if (64 : Int32) ≤ (m.1 98 2) then some m else xlt (xwi m 99 (v1).toNatClampNeg v2) fun (m2 : xmm) => xgd (xinb 64 (m2.1 98 2)) (xlt (xwi m2 100 ((m2.1 98 2)).toNatClampNeg v1) fun (m4 : xmm) => xlt (xwi m4 98 2 ((m4.1 98 2) + (1 : Int32))) fun (m5 : xmm) => some m5) else some m)) = some z) : fX6_reach_98 v1 v2 m = some z := by
  refine xstV ?_
  show xT 68 0 0 [(0, .ref 98), (1, .int v1), (2, .int v2)] [] m (none, z)
  refine e_aload_n rfl rfl rfl (xnm_no rfl) ?_
  refine e_getR (r := 99) rfl rfl rfl rfl rfl (xnm_no rfl) ?_
  refine e_iload_n rfl rfl (xnm_no rfl) ?_
  obtain ⟨g1, h⟩ := xgd_some h
  refine e_iald rfl g1 (xnm_no rfl) ?_
  refine e_iconst (x := -1) rfl (by decide) (xnm_no rfl) ?_
  refine e_icmp_ne (t := 46) rfl rfl (xnm_no rfl) (xnm_no rfl) h (fun h => ?_) (fun h => ?_)
  · cases h
    exact e_retV rfl rfl
  · refine e_aload_n rfl rfl rfl (xnm_no rfl) ?_
    refine e_getI rfl rfl rfl rfl (xnm_no rfl) ?_
    refine e_bipush (x := 64) rfl (by decide) (xnm_no rfl) ?_
    refine e_icmp_ge (t := 46) rfl rfl (xnm_no rfl) (xnm_no rfl) h (fun h => ?_) (fun h => ?_)
    · cases h
      exact e_retV rfl rfl
    · refine e_aload_n rfl rfl rfl (xnm_no rfl) ?_
      refine e_getR (r := 99) rfl rfl rfl rfl rfl (xnm_no rfl) ?_
      refine e_iload_n rfl rfl (xnm_no rfl) ?_
      refine e_iload_n rfl rfl (xnm_no rfl) ?_
      refine e_iast rfl g1 (xnm_no rfl) ?_
      replace h := xlt_b h
      refine e_aload_n rfl rfl rfl (xnm_no rfl) ?_
      refine e_getR (r := 100) rfl rfl rfl rfl rfl (xnm_no rfl) ?_
      refine e_aload_n rfl rfl rfl (xnm_no rfl) ?_
      refine e_getI rfl rfl rfl rfl (xnm_no rfl) ?_
      refine e_iload_n rfl rfl (xnm_no rfl) ?_
      obtain ⟨g3, h⟩ := xgd_some h
      refine e_iast rfl g3 (xnm_no rfl) ?_
      replace h := xlt_b h
      refine e_aload_n rfl rfl rfl (xnm_no rfl) ?_
      refine e_dup rfl rfl (xnm_no rfl) ?_
      refine e_getI rfl rfl rfl rfl (xnm_no rfl) ?_
      refine e_iconst (x := 1) rfl (by decide) (xnm_no rfl) ?_
      refine e_iadd rfl (xnm_no rfl) ?_
      refine e_putI rfl rfl rfl rfl (xnm_no rfl) ?_
      replace h := xlt_b h
      cases h
      exact e_retV rfl rfl
set_option maxRecDepth 4000 in
theorem fX11_arrowFrom_i (v0 : Int32) (v1 : Int32) (m : xmm) {z : Int32 × xmm} (h : (some ((((8 : Int32) * v0) + v1), m)) = some z) : fX11_arrowFrom v0 v1 m = some z := by
  refine xstI ?_
  show xT 144 0 0 [(0, .int v0), (1, .int v1)] [] m (some (.int z.1), z.2)
  refine e_bipush (x := 8) rfl (by decide) (xnm_no rfl) ?_
  refine e_iload_n rfl rfl (xnm_no rfl) ?_
  refine e_imul rfl (xnm_no rfl) ?_
  refine e_iload_n rfl rfl (xnm_no rfl) ?_
  refine e_iadd rfl (xnm_no rfl) ?_
  cases h
  exact e_retI rfl rfl
set_option maxRecDepth 4000 in
theorem fX6_reachForced_98_i (v1 : Nat) (v2 : Int32) (m : xmm) {z : xmm} (h : (xgd (!(Nat.beq v1 1999)) (xgd (xia 1 v1 (v2 / (8 : Int32))) (xgd (xia 1 v1 (v2 - v2 / (8 : Int32) * (8 : Int32))) (xlt (((m.1 v1 ((v2 / (8 : Int32))).toNatClampNeg) &&& ((m.1 v1 ((v2 - v2 / (8 : Int32) * (8 : Int32))).toNatClampNeg) ^^^ (-1 : Int32))) &&& (((1 : Int32) <<< ((v2 - v2 / (8 : Int32) * (8 : Int32)) &&& 31)) ^^^ (-1 : Int32))) fun (x4 : Int32) => xlt (((m.1 v1 ((v2 - v2 / (8 : Int32) * (8 : Int32))).toNatClampNeg) &&& ((m.1 v1 ((v2 / (8 : Int32))).toNatClampNeg) ^^^ (-1 : Int32))) &&& (((1 : Int32) <<< ((v2 / (8 : Int32)) &&& 31)) ^^^ (-1 : Int32))) fun (x5 : Int32) => bX6_reachForced_98_51 v2 (v2 / (8 : Int32)) (v2 - v2 / (8 : Int32) * (8 : Int32)) x4 x5 (0 : Int32) m)))) = some z) : fX6_reachForced_98 v1 v2 m = some z := by
  refine xstV ?_
  show xT 67 1 0 [(0, .ref 98), (1, .ref v1), (2, .int v2)] [] m (none, z)
  refine e_iload_n rfl rfl (xnm_no rfl) ?_
  refine e_bipush (x := 8) rfl (by decide) (xnm_no rfl) ?_
  refine e_idiv rfl (by decide) (xnm_no rfl) ?_
  refine e_istore_n rfl rfl (xnm_no rfl) ?_
  refine e_iload_n rfl rfl (xnm_no rfl) ?_
  refine e_bipush (x := 8) rfl (by decide) (xnm_no rfl) ?_
  refine e_irem rfl (by decide) (xnm_no rfl) ?_
  refine e_istore rfl rfl (xnm_no rfl) ?_
  obtain ⟨g1, h⟩ := xgd_some h
  refine e_aload_n rfl rfl (xnb g1) (xnm_no rfl) ?_
  refine e_iload_n rfl rfl (xnm_no rfl) ?_
  obtain ⟨g2, h⟩ := xgd_some h
  refine e_iald rfl g2 (xnm_no rfl) ?_
  refine e_aload_n rfl rfl (xnb g1) (xnm_no rfl) ?_
  refine e_iload rfl rfl (xnm_no rfl) ?_
  obtain ⟨g3, h⟩ := xgd_some h
  refine e_iald rfl g3 (xnm_no rfl) ?_
  refine e_iconst (x := -1) rfl (by decide) (xnm_no rfl) ?_
  refine e_ixor rfl (xnm_no rfl) ?_
  refine e_iand rfl (xnm_no rfl) ?_
  refine e_iconst (x := 1) rfl (by decide) (xnm_no rfl) ?_
  refine e_iload rfl rfl (xnm_no rfl) ?_
  refine e_ishl rfl (xnm_no rfl) ?_
  refine e_iconst (x := -1) rfl (by decide) (xnm_no rfl) ?_
  refine e_ixor rfl (xnm_no rfl) ?_
  refine e_iand rfl (xnm_no rfl) ?_
  replace h := xlt_b h
  refine e_istore rfl rfl (xnm_no rfl) ?_
  refine e_aload_n rfl rfl (xnb g1) (xnm_no rfl) ?_
  refine e_iload rfl rfl (xnm_no rfl) ?_
  refine e_iald rfl g3 (xnm_no rfl) ?_
  refine e_aload_n rfl rfl (xnb g1) (xnm_no rfl) ?_
  refine e_iload_n rfl rfl (xnm_no rfl) ?_
  refine e_iald rfl g2 (xnm_no rfl) ?_
  refine e_iconst (x := -1) rfl (by decide) (xnm_no rfl) ?_
  refine e_ixor rfl (xnm_no rfl) ?_
  refine e_iand rfl (xnm_no rfl) ?_
  refine e_iconst (x := 1) rfl (by decide) (xnm_no rfl) ?_
  refine e_iload_n rfl rfl (xnm_no rfl) ?_
  refine e_ishl rfl (xnm_no rfl) ?_
  refine e_iconst (x := -1) rfl (by decide) (xnm_no rfl) ?_
  refine e_ixor rfl (xnm_no rfl) ?_
  refine e_iand rfl (xnm_no rfl) ?_
  replace h := xlt_b h
  refine e_istore rfl rfl (xnm_no rfl) ?_
  refine e_iconst (x := 0) rfl (by decide) (xnm_no rfl) ?_
  refine e_istore rfl rfl rfl ?_
  exact xlfV h
set_option maxRecDepth 4000 in
theorem bX6_reachForced_98_51_i (v2 : Int32) (v3 : Int32) (v4 : Int32) (v5 : Int32) (v6 : Int32) (v7 : Int32) (m : xmm) {z : xmm} (h : (if (8 : Int32) ≤ v7 then some m else (fX11_contains v5 v7 m).bind fun (w1 : Int32 × xmm) => if w1.1 = 0 then bX6_reachForced_98_86 v2 v3 v4 v5 v6 v7 w1.2 else (fX11_arrowFrom v3 v7 w1.2).bind fun (w3 : Int32 × xmm) => xgd (xinb 64 v2) ((fX6_reach_98 w3.1 ((w3.2.1 99 (v2).toNatClampNeg) + (1 : Int32)) w3.2).bind fun (w6 : xmm) => bX6_reachForced_98_86 v2 v3 v4 v5 v6 v7 w6)) = some z) : bX6_reachForced_98_51 v2 v3 v4 v5 v6 v7 m = some z := by
  refine xstV ?_
  show xT 67 1 51 [(0, .ref 98), (2, .int v2), (3, .int v3), (4, .int v4), (5, .int v5), (6, .int v6), (7, .int v7)] [] m (none, z)
  refine e_iload rfl rfl (xnm_no rfl) ?_
  refine e_bipush (x := 8) rfl (by decide) (xnm_no rfl) ?_
  refine e_icmp_ge (t := 121) rfl rfl (xnm_no rfl) (xnm_no rfl) h (fun h => ?_) (fun h => ?_)
  · cases h
    exact e_retV rfl rfl
  · refine e_iload rfl rfl (xnm_no rfl) ?_
    refine e_iload rfl rfl (xnm_no rfl) ?_
    obtain ⟨w1, hw2, h⟩ := xbd_some h
    refine e_cIS (hc := hw2) (rest := []) rfl rfl rfl rfl rfl rfl rfl rfl (xnm_no rfl) ?_
    refine e_if_eq (t := 86) rfl rfl rfl (xnm_no rfl) h (fun h => ?_) (fun h => ?_)
    · exact xlfV h
    · refine e_aload_n rfl rfl rfl (xnm_no rfl) ?_
      refine e_iload_n rfl rfl (xnm_no rfl) ?_
      refine e_iload rfl rfl (xnm_no rfl) ?_
      obtain ⟨w3, hw4, h⟩ := xbd_some h
      refine e_cIS (hc := hw4) (rest := [.ref 98]) rfl rfl rfl rfl rfl rfl rfl rfl (xnm_no rfl) ?_
      refine e_aload_n rfl rfl rfl (xnm_no rfl) ?_
      refine e_getR (r := 99) rfl rfl rfl rfl rfl (xnm_no rfl) ?_
      refine e_iload_n rfl rfl (xnm_no rfl) ?_
      obtain ⟨g5, h⟩ := xgd_some h
      refine e_iald rfl g5 (xnm_no rfl) ?_
      refine e_iconst (x := 1) rfl (by decide) (xnm_no rfl) ?_
      refine e_iadd rfl (xnm_no rfl) ?_
      obtain ⟨w6, hw7, h⟩ := xbd_some h
      refine e_cVV (hc := hw7) (rest := []) rfl rfl rfl rfl rfl rfl rfl rfl rfl ?_
      exact xlfV h
set_option maxRecDepth 4000 in
theorem bX6_reachForced_98_86_i (v2 : Int32) (v3 : Int32) (v4 : Int32) (v5 : Int32) (v6 : Int32) (v7 : Int32) (m : xmm) {z : xmm} (h : ((fX11_contains v6 v7 m).bind fun (w1 : Int32 × xmm) => if w1.1 = 0 then bX6_reachForced_98_51 v2 v3 v4 v5 v6 (v7 + (1 : Int32)) w1.2 else (fX11_arrowFrom v7 v4 w1.2).bind fun (w3 : Int32 × xmm) => xgd (xinb 64 v2) ((fX6_reach_98 w3.1 ((w3.2.1 99 (v2).toNatClampNeg) + (1 : Int32)) w3.2).bind fun (w6 : xmm) => bX6_reachForced_98_51 v2 v3 v4 v5 v6 (v7 + (1 : Int32)) w6)) = some z) : bX6_reachForced_98_86 v2 v3 v4 v5 v6 v7 m = some z := by
  refine xstV ?_
  show xT 67 1 86 [(0, .ref 98), (2, .int v2), (3, .int v3), (4, .int v4), (5, .int v5), (6, .int v6), (7, .int v7)] [] m (none, z)
  refine e_iload rfl rfl (xnm_no rfl) ?_
  refine e_iload rfl rfl (xnm_no rfl) ?_
  obtain ⟨w1, hw2, h⟩ := xbd_some h
  refine e_cIS (hc := hw2) (rest := []) rfl rfl rfl rfl rfl rfl rfl rfl (xnm_no rfl) ?_
  refine e_if_eq (t := 115) rfl rfl (xnm_no rfl) (xnm_no rfl) h (fun h => ?_) (fun h => ?_)
  · refine e_iinc (y := 1) rfl rfl rfl (by decide) (xnm_no rfl) ?_
    refine e_goto (t := 51) rfl rfl rfl ?_
    exact xlfV h
  · refine e_aload_n rfl rfl rfl (xnm_no rfl) ?_
    refine e_iload rfl rfl (xnm_no rfl) ?_
    refine e_iload rfl rfl (xnm_no rfl) ?_
    obtain ⟨w3, hw4, h⟩ := xbd_some h
    refine e_cIS (hc := hw4) (rest := [.ref 98]) rfl rfl rfl rfl rfl rfl rfl rfl (xnm_no rfl) ?_
    refine e_aload_n rfl rfl rfl (xnm_no rfl) ?_
    refine e_getR (r := 99) rfl rfl rfl rfl rfl (xnm_no rfl) ?_
    refine e_iload_n rfl rfl (xnm_no rfl) ?_
    obtain ⟨g5, h⟩ := xgd_some h
    refine e_iald rfl g5 (xnm_no rfl) ?_
    refine e_iconst (x := 1) rfl (by decide) (xnm_no rfl) ?_
    refine e_iadd rfl (xnm_no rfl) ?_
    obtain ⟨w6, hw7, h⟩ := xbd_some h
    refine e_cVV (hc := hw7) (rest := []) rfl rfl rfl rfl rfl rfl rfl rfl (xnm_no rfl) ?_
    refine e_iinc (y := 1) rfl rfl rfl (by decide) (xnm_no rfl) ?_
    refine e_goto (t := 51) rfl rfl rfl ?_
    exact xlfV h
set_option maxRecDepth 4000 in
theorem fX6_spread_98_i (v1 : Nat) (v2 : Int32) (m : xmm) {z : xmm} (h : (bX6_spread_98_2 v1 v2 (0 : Int32) m) = some z) : fX6_spread_98 v1 v2 m = some z := by
  refine xstV ?_
  show xT 66 2 0 [(0, .ref 98), (1, .ref v1), (2, .int v2)] [] m (none, z)
  refine e_iconst (x := 0) rfl (by decide) (xnm_no rfl) ?_
  refine e_istore_n rfl rfl rfl ?_
  exact xlfV h
set_option maxRecDepth 4000 in
theorem bX6_spread_98_2_i (v1 : Nat) (v2 : Int32) (v3 : Int32) (m : xmm) {z : xmm} (h : (if (64 : Int32) ≤ v3 then xlt (xwi m 98 2 (0 : Int32)) fun (m1 : xmm) => (fX6_reach_98 v2 (0 : Int32) m1).bind fun (w2 : xmm) => bX6_spread_98_34 v1 (0 : Int32) w2 else xgd (xinb 64 v3) (xlt (xwi m 99 (v3).toNatClampNeg (-1 : Int32)) fun (m5 : xmm) => bX6_spread_98_2 v1 v2 (v3 + (1 : Int32)) m5)) = some z) : bX6_spread_98_2 v1 v2 v3 m = some z := by
  refine xstV ?_
  show xT 66 2 2 [(0, .ref 98), (1, .ref v1), (2, .int v2), (3, .int v3)] [] m (none, z)
  refine e_iload_n rfl rfl (xnm_no rfl) ?_
  refine e_bipush (x := 64) rfl (by decide) (xnm_no rfl) ?_
  refine e_icmp_ge (t := 21) rfl rfl (xnm_no rfl) (xnm_no rfl) h (fun h => ?_) (fun h => ?_)
  · refine e_aload_n rfl rfl rfl (xnm_no rfl) ?_
    refine e_iconst (x := 0) rfl (by decide) (xnm_no rfl) ?_
    refine e_putI rfl rfl rfl rfl (xnm_no rfl) ?_
    replace h := xlt_b h
    refine e_aload_n rfl rfl rfl (xnm_no rfl) ?_
    refine e_iload_n rfl rfl (xnm_no rfl) ?_
    refine e_iconst (x := 0) rfl (by decide) (xnm_no rfl) ?_
    obtain ⟨w2, hw3, h⟩ := xbd_some h
    refine e_cVV (hc := hw3) (rest := []) rfl rfl rfl rfl rfl rfl rfl rfl (xnm_no rfl) ?_
    refine e_iconst (x := 0) rfl (by decide) (xnm_no rfl) ?_
    refine e_istore_n rfl rfl rfl ?_
    exact xlfV h
  · refine e_aload_n rfl rfl rfl (xnm_no rfl) ?_
    refine e_getR (r := 99) rfl rfl rfl rfl rfl (xnm_no rfl) ?_
    refine e_iload_n rfl rfl (xnm_no rfl) ?_
    refine e_iconst (x := -1) rfl (by decide) (xnm_no rfl) ?_
    obtain ⟨g4, h⟩ := xgd_some h
    refine e_iast rfl g4 (xnm_no rfl) ?_
    replace h := xlt_b h
    refine e_iinc (y := 1) rfl rfl rfl (by decide) (xnm_no rfl) ?_
    refine e_goto (t := 2) rfl rfl rfl ?_
    exact xlfV h
set_option maxRecDepth 4000 in
theorem bX6_spread_98_34_i (v1 : Nat) (v3 : Int32) (m : xmm) {z : xmm} (h : (if (m.1 98 2) ≤ v3 then some m else if (64 : Int32) ≤ v3 then some m else xgd (!(Nat.beq v1 1999)) (xgd (xinb 64 v3) ((fX6_reachForced_98 v1 (m.1 100 (v3).toNatClampNeg) m).bind fun (w3 : xmm) => bX6_spread_98_34 v1 (v3 + (1 : Int32)) w3))) = some z) : bX6_spread_98_34 v1 v3 m = some z := by
  refine xstV ?_
  show xT 66 2 34 [(0, .ref 98), (1, .ref v1), (3, .int v3)] [] m (none, z)
  refine e_iload_n rfl rfl (xnm_no rfl) ?_
  refine e_aload_n rfl rfl rfl (xnm_no rfl) ?_
  refine e_getI rfl rfl rfl rfl (xnm_no rfl) ?_
  refine e_icmp_ge (t := 65) rfl rfl (xnm_no rfl) (xnm_no rfl) h (fun h => ?_) (fun h => ?_)
  · cases h
    exact e_retV rfl rfl
  · refine e_iload_n rfl rfl (xnm_no rfl) ?_
    refine e_bipush (x := 64) rfl (by decide) (xnm_no rfl) ?_
    refine e_icmp_ge (t := 65) rfl rfl (xnm_no rfl) (xnm_no rfl) h (fun h => ?_) (fun h => ?_)
    · cases h
      exact e_retV rfl rfl
    · refine e_aload_n rfl rfl rfl (xnm_no rfl) ?_
      obtain ⟨g1, h⟩ := xgd_some h
      refine e_aload_n rfl rfl (xnb g1) (xnm_no rfl) ?_
      refine e_aload_n rfl rfl rfl (xnm_no rfl) ?_
      refine e_getR (r := 100) rfl rfl rfl rfl rfl (xnm_no rfl) ?_
      refine e_iload_n rfl rfl (xnm_no rfl) ?_
      obtain ⟨g2, h⟩ := xgd_some h
      refine e_iald rfl g2 (xnm_no rfl) ?_
      obtain ⟨w3, hw4, h⟩ := xbd_some h
      refine e_cVV (hc := hw4) (rest := []) rfl rfl rfl rfl rfl rfl rfl rfl (xnm_no rfl) ?_
      refine e_iinc (y := 1) rfl rfl rfl (by decide) (xnm_no rfl) ?_
      refine e_goto (t := 34) rfl rfl rfl ?_
      exact xlfV h
set_option maxRecDepth 4000 in
theorem fX11_against_i (v0 : Int32) (m : xmm) {z : Int32 × xmm} (h : ((fX11_arrowFrom (v0 - v0 / (8 : Int32) * (8 : Int32)) (v0 / (8 : Int32)) m).bind fun (w1 : Int32 × xmm) => some (w1.1, w1.2)) = some z) : fX11_against v0 m = some z := by
  refine xstI ?_
  show xT 145 1 0 [(0, .int v0)] [] m (some (.int z.1), z.2)
  refine e_iload_n rfl rfl (xnm_no rfl) ?_
  refine e_bipush (x := 8) rfl (by decide) (xnm_no rfl) ?_
  refine e_irem rfl (by decide) (xnm_no rfl) ?_
  refine e_iload_n rfl rfl (xnm_no rfl) ?_
  refine e_bipush (x := 8) rfl (by decide) (xnm_no rfl) ?_
  refine e_idiv rfl (by decide) (xnm_no rfl) ?_
  obtain ⟨w1, hw2, h⟩ := xbd_some h
  refine e_cIS (hc := hw2) (rest := []) rfl rfl rfl rfl rfl rfl rfl rfl (xnm_no rfl) ?_
  cases h
  exact e_retI rfl rfl
set_option maxRecDepth 4000 in
theorem fX1_isOdd_97_i (v1 : Int32) (m : xmm) {z : Int32 × xmm} (h : (xgd (xinb 64 v1) ((fX11_against v1 m).bind fun (w2 : Int32 × xmm) => xgd (xinb 64 w2.1) (if (m.1 102 (v1).toNatClampNeg) = (w2.2.1 102 (w2.1).toNatClampNeg) then some ((1 : Int32), w2.2) else some ((0 : Int32), w2.2)))) = some z) : fX1_isOdd_97 v1 m = some z := by
  refine xstI ?_
  show xT 13 2 0 [(0, .ref 97), (1, .int v1)] [] m (some (.int z.1), z.2)
  refine e_aload_n rfl rfl rfl (xnm_no rfl) ?_
  refine e_getR (r := 102) rfl rfl rfl rfl rfl (xnm_no rfl) ?_
  refine e_iload_n rfl rfl (xnm_no rfl) ?_
  obtain ⟨g1, h⟩ := xgd_some h
  refine e_iald rfl g1 (xnm_no rfl) ?_
  refine e_aload_n rfl rfl rfl (xnm_no rfl) ?_
  refine e_getR (r := 102) rfl rfl rfl rfl rfl (xnm_no rfl) ?_
  refine e_iload_n rfl rfl (xnm_no rfl) ?_
  obtain ⟨w2, hw3, h⟩ := xbd_some h
  refine e_cIS (hc := hw3) (rest := [.ref 102, .int _]) rfl rfl rfl rfl rfl rfl rfl rfl (xnm_no rfl) ?_
  obtain ⟨g4, h⟩ := xgd_some h
  refine e_iald rfl g4 (xnm_no rfl) ?_
  refine e_icmp_ne (t := 22) rfl rfl (xnm_no rfl) (xnm_no rfl) h (fun h => ?_) (fun h => ?_)
  · refine e_iconst (x := 0) rfl (by decide) (xnm_no rfl) ?_
    cases h
    exact e_retI rfl (by decide)
  · refine e_iconst (x := 1) rfl (by decide) (xnm_no rfl) ?_
    refine e_goto (t := 23) rfl rfl (xnm_no rfl) ?_
    cases h
    exact e_retI rfl (by decide)
set_option maxRecDepth 4000 in
theorem fX1_addClass_97_i (v1 : Int32) (m : xmm) {z : xmm} (h : ((fX6_spread_98 101 v1 m).bind fun (w1 : xmm) => bX1_addClass_97_14 v1 (0 : Int32) w1) = some z) : fX1_addClass_97 v1 m = some z := by
  refine xstV ?_
  show xT 8 3 0 [(0, .ref 97), (1, .int v1)] [] m (none, z)
  refine e_aload_n rfl rfl rfl (xnm_no rfl) ?_
  refine e_getR (r := 98) rfl rfl rfl rfl rfl (xnm_no rfl) ?_
  refine e_aload_n rfl rfl rfl (xnm_no rfl) ?_
  refine e_getR (r := 101) rfl rfl rfl rfl rfl (xnm_no rfl) ?_
  refine e_iload_n rfl rfl (xnm_no rfl) ?_
  obtain ⟨w1, hw2, h⟩ := xbd_some h
  refine e_cVV (hc := hw2) (rest := []) rfl rfl rfl rfl rfl rfl rfl rfl (xnm_no rfl) ?_
  refine e_iconst (x := 0) rfl (by decide) (xnm_no rfl) ?_
  refine e_istore_n rfl rfl rfl ?_
  exact xlfV h
set_option maxRecDepth 4000 in
theorem bX1_addClass_97_14_i (v1 : Int32) (v2 : Int32) (m : xmm) {z : xmm} (h : (if (m.1 98 2) ≤ v2 then xlt (xwi m 97 3 ((m.1 97 3) + (1 : Int32))) fun (m1 : xmm) => (fX1_isOdd_97 v1 m1).bind fun (w2 : Int32 × xmm) => if w2.1 = 0 then some w2.2 else xlt (xwi w2.2 97 4 ((w2.2.1 97 4) + (1 : Int32))) fun (m4 : xmm) => some m4 else xgd (xinb 64 v2) (xgd (xinb 64 (m.1 100 (v2).toNatClampNeg)) (xlt (xwi m 102 ((m.1 100 (v2).toNatClampNeg)).toNatClampNeg (m.1 97 3)) fun (m7 : xmm) => bX1_addClass_97_14 v1 (v2 + (1 : Int32)) m7))) = some z) : bX1_addClass_97_14 v1 v2 m = some z := by
  refine xstV ?_
  show xT 8 3 14 [(0, .ref 97), (1, .int v1), (2, .int v2)] [] m (none, z)
  refine e_iload_n rfl rfl (xnm_no rfl) ?_
  refine e_aload_n rfl rfl rfl (xnm_no rfl) ?_
  refine e_getR (r := 98) rfl rfl rfl rfl rfl (xnm_no rfl) ?_
  refine e_getI rfl rfl rfl rfl (xnm_no rfl) ?_
  refine e_icmp_ge (t := 49) rfl rfl (xnm_no rfl) (xnm_no rfl) h (fun h => ?_) (fun h => ?_)
  · refine e_aload_n rfl rfl rfl (xnm_no rfl) ?_
    refine e_dup rfl rfl (xnm_no rfl) ?_
    refine e_getI rfl rfl rfl rfl (xnm_no rfl) ?_
    refine e_iconst (x := 1) rfl (by decide) (xnm_no rfl) ?_
    refine e_iadd rfl (xnm_no rfl) ?_
    refine e_putI rfl rfl rfl rfl (xnm_no rfl) ?_
    replace h := xlt_b h
    refine e_aload_n rfl rfl rfl (xnm_no rfl) ?_
    refine e_iload_n rfl rfl (xnm_no rfl) ?_
    obtain ⟨w2, hw3, h⟩ := xbd_some h
    refine e_cIV (hc := hw3) (rest := []) rfl rfl rfl rfl rfl rfl rfl rfl (xnm_no rfl) ?_
    refine e_if_eq (t := 77) rfl rfl (xnm_no rfl) (xnm_no rfl) h (fun h => ?_) (fun h => ?_)
    · cases h
      exact e_retV rfl rfl
    · refine e_aload_n rfl rfl rfl (xnm_no rfl) ?_
      refine e_dup rfl rfl (xnm_no rfl) ?_
      refine e_getI rfl rfl rfl rfl (xnm_no rfl) ?_
      refine e_iconst (x := 1) rfl (by decide) (xnm_no rfl) ?_
      refine e_iadd rfl (xnm_no rfl) ?_
      refine e_putI rfl rfl rfl rfl (xnm_no rfl) ?_
      replace h := xlt_b h
      cases h
      exact e_retV rfl rfl
  · refine e_aload_n rfl rfl rfl (xnm_no rfl) ?_
    refine e_getR (r := 102) rfl rfl rfl rfl rfl (xnm_no rfl) ?_
    refine e_aload_n rfl rfl rfl (xnm_no rfl) ?_
    refine e_getR (r := 98) rfl rfl rfl rfl rfl (xnm_no rfl) ?_
    refine e_getR (r := 100) rfl rfl rfl rfl rfl (xnm_no rfl) ?_
    refine e_iload_n rfl rfl (xnm_no rfl) ?_
    obtain ⟨g5, h⟩ := xgd_some h
    refine e_iald rfl g5 (xnm_no rfl) ?_
    refine e_aload_n rfl rfl rfl (xnm_no rfl) ?_
    refine e_getI rfl rfl rfl rfl (xnm_no rfl) ?_
    obtain ⟨g6, h⟩ := xgd_some h
    refine e_iast rfl g6 (xnm_no rfl) ?_
    replace h := xlt_b h
    refine e_iinc (y := 1) rfl rfl rfl (by decide) (xnm_no rfl) ?_
    refine e_goto (t := 14) rfl rfl rfl ?_
    exact xlfV h
set_option maxRecDepth 4000 in
theorem fX1_solve_97_i (v1 : Nat) (m : xmm) {z : xmm} (h : (bX1_solve_97_2 v1 (0 : Int32) m) = some z) : fX1_solve_97 v1 m = some z := by
  refine xstV ?_
  show xT 7 4 0 [(0, .ref 97), (1, .ref v1)] [] m (none, z)
  refine e_iconst (x := 0) rfl (by decide) (xnm_no rfl) ?_
  refine e_istore_n rfl rfl rfl ?_
  exact xlfV h
set_option maxRecDepth 4000 in
theorem bX1_solve_97_2_i (v1 : Nat) (v2 : Int32) (m : xmm) {z : xmm} (h : (if (8 : Int32) ≤ v2 then bX1_solve_97_25 (0 : Int32) m else xgd (!(Nat.beq v1 1999)) (xgd (xia 1 v1 v2) (xgd (xinb 8 v2) (xlt (xwi m 101 (v2).toNatClampNeg (m.1 v1 (v2).toNatClampNeg)) fun (m4 : xmm) => bX1_solve_97_2 v1 (v2 + (1 : Int32)) m4)))) = some z) : bX1_solve_97_2 v1 v2 m = some z := by
  refine xstV ?_
  show xT 7 4 2 [(0, .ref 97), (1, .ref v1), (2, .int v2)] [] m (none, z)
  refine e_iload_n rfl rfl (xnm_no rfl) ?_
  refine e_bipush (x := 8) rfl (by decide) (xnm_no rfl) ?_
  refine e_icmp_ge (t := 23) rfl rfl (xnm_no rfl) (xnm_no rfl) h (fun h => ?_) (fun h => ?_)
  · refine e_iconst (x := 0) rfl (by decide) (xnm_no rfl) ?_
    refine e_istore_n rfl rfl rfl ?_
    exact xlfV h
  · refine e_aload_n rfl rfl rfl (xnm_no rfl) ?_
    refine e_getR (r := 101) rfl rfl rfl rfl rfl (xnm_no rfl) ?_
    refine e_iload_n rfl rfl (xnm_no rfl) ?_
    obtain ⟨g1, h⟩ := xgd_some h
    refine e_aload_n rfl rfl (xnb g1) (xnm_no rfl) ?_
    refine e_iload_n rfl rfl (xnm_no rfl) ?_
    obtain ⟨g2, h⟩ := xgd_some h
    refine e_iald rfl g2 (xnm_no rfl) ?_
    obtain ⟨g3, h⟩ := xgd_some h
    refine e_iast rfl g3 (xnm_no rfl) ?_
    replace h := xlt_b h
    refine e_iinc (y := 1) rfl rfl rfl (by decide) (xnm_no rfl) ?_
    refine e_goto (t := 2) rfl rfl rfl ?_
    exact xlfV h
set_option maxRecDepth 4000 in
theorem bX1_solve_97_25_i (v2 : Int32) (m : xmm) {z : xmm} (h : (if (64 : Int32) ≤ v2 then xlt (xwi m 97 3 (0 : Int32)) fun (m1 : xmm) => xlt (xwi m1 97 4 (0 : Int32)) fun (m2 : xmm) => bX1_solve_97_56 (0 : Int32) m2 else xgd (xinb 64 v2) (xlt (xwi m 102 (v2).toNatClampNeg (-1 : Int32)) fun (m4 : xmm) => bX1_solve_97_25 (v2 + (1 : Int32)) m4)) = some z) : bX1_solve_97_25 v2 m = some z := by
  refine xstV ?_
  show xT 7 4 25 [(0, .ref 97), (2, .int v2)] [] m (none, z)
  refine e_iload_n rfl rfl (xnm_no rfl) ?_
  refine e_bipush (x := 64) rfl (by decide) (xnm_no rfl) ?_
  refine e_icmp_ge (t := 44) rfl rfl (xnm_no rfl) (xnm_no rfl) h (fun h => ?_) (fun h => ?_)
  · refine e_aload_n rfl rfl rfl (xnm_no rfl) ?_
    refine e_iconst (x := 0) rfl (by decide) (xnm_no rfl) ?_
    refine e_putI rfl rfl rfl rfl (xnm_no rfl) ?_
    replace h := xlt_b h
    refine e_aload_n rfl rfl rfl (xnm_no rfl) ?_
    refine e_iconst (x := 0) rfl (by decide) (xnm_no rfl) ?_
    refine e_putI rfl rfl rfl rfl (xnm_no rfl) ?_
    replace h := xlt_b h
    refine e_iconst (x := 0) rfl (by decide) (xnm_no rfl) ?_
    refine e_istore_n rfl rfl rfl ?_
    exact xlfV h
  · refine e_aload_n rfl rfl rfl (xnm_no rfl) ?_
    refine e_getR (r := 102) rfl rfl rfl rfl rfl (xnm_no rfl) ?_
    refine e_iload_n rfl rfl (xnm_no rfl) ?_
    refine e_iconst (x := -1) rfl (by decide) (xnm_no rfl) ?_
    obtain ⟨g3, h⟩ := xgd_some h
    refine e_iast rfl g3 (xnm_no rfl) ?_
    replace h := xlt_b h
    refine e_iinc (y := 1) rfl rfl rfl (by decide) (xnm_no rfl) ?_
    refine e_goto (t := 25) rfl rfl rfl ?_
    exact xlfV h
set_option maxRecDepth 4000 in
theorem bX1_solve_97_56_i (v2 : Int32) (m : xmm) {z : xmm} (h : (if (64 : Int32) ≤ v2 then some m else (fX11_isArrow 101 v2 m).bind fun (w1 : Int32 × xmm) => if w1.1 = 0 then bX1_solve_97_56 (v2 + (1 : Int32)) w1.2 else xgd (xinb 64 v2) (if (w1.2.1 102 (v2).toNatClampNeg) = (-1 : Int32) then (fX1_addClass_97 v2 w1.2).bind fun (w4 : xmm) => bX1_solve_97_56 (v2 + (1 : Int32)) w4 else bX1_solve_97_56 (v2 + (1 : Int32)) w1.2)) = some z) : bX1_solve_97_56 v2 m = some z := by
  refine xstV ?_
  show xT 7 4 56 [(0, .ref 97), (2, .int v2)] [] m (none, z)
  refine e_iload_n rfl rfl (xnm_no rfl) ?_
  refine e_bipush (x := 64) rfl (by decide) (xnm_no rfl) ?_
  refine e_icmp_ge (t := 94) rfl rfl (xnm_no rfl) (xnm_no rfl) h (fun h => ?_) (fun h => ?_)
  · cases h
    exact e_retV rfl rfl
  · refine e_aload_n rfl rfl rfl (xnm_no rfl) ?_
    refine e_getR (r := 101) rfl rfl rfl rfl rfl (xnm_no rfl) ?_
    refine e_iload_n rfl rfl (xnm_no rfl) ?_
    obtain ⟨w1, hw2, h⟩ := xbd_some h
    refine e_cIS (hc := hw2) (rest := []) rfl rfl rfl rfl rfl rfl rfl rfl (xnm_no rfl) ?_
    refine e_if_eq (t := 88) rfl rfl (xnm_no rfl) (xnm_no rfl) h (fun h => ?_) (fun h => ?_)
    · refine e_iinc (y := 1) rfl rfl rfl (by decide) (xnm_no rfl) ?_
      refine e_goto (t := 56) rfl rfl rfl ?_
      exact xlfV h
    · refine e_aload_n rfl rfl rfl (xnm_no rfl) ?_
      refine e_getR (r := 102) rfl rfl rfl rfl rfl (xnm_no rfl) ?_
      refine e_iload_n rfl rfl (xnm_no rfl) ?_
      obtain ⟨g3, h⟩ := xgd_some h
      refine e_iald rfl g3 (xnm_no rfl) ?_
      refine e_iconst (x := -1) rfl (by decide) (xnm_no rfl) ?_
      refine e_icmp_ne (t := 88) rfl rfl (xnm_no rfl) (xnm_no rfl) h (fun h => ?_) (fun h => ?_)
      · refine e_iinc (y := 1) rfl rfl rfl (by decide) (xnm_no rfl) ?_
        refine e_goto (t := 56) rfl rfl rfl ?_
        exact xlfV h
      · refine e_aload_n rfl rfl rfl (xnm_no rfl) ?_
        refine e_iload_n rfl rfl (xnm_no rfl) ?_
        obtain ⟨w4, hw5, h⟩ := xbd_some h
        refine e_cVV (hc := hw5) (rest := []) rfl rfl rfl rfl rfl rfl rfl rfl (xnm_no rfl) ?_
        refine e_iinc (y := 1) rfl rfl rfl (by decide) (xnm_no rfl) ?_
        refine e_goto (t := 56) rfl rfl rfl ?_
        exact xlfV h
set_option maxRecDepth 4000 in
theorem fX6_reach_104_i (v1 : Int32) (v2 : Int32) (m : xmm) {z : xmm} (h : (xgd (xinb 64 v1) (if (m.1 105 (v1).toNatClampNeg) = (-1 : Int32) then if (64 : Int32) ≤ (m.1 104 2) then some m else xlt (xwi m 105 (v1).toNatClampNeg v2) fun (m2 : xmm) => xgd (xinb 64 (m2.1 104 2)) (xlt (xwi m2 106 ((m2.1 104 2)).toNatClampNeg v1) fun (m4 : xmm) => xlt (xwi m4 104 2 ((m4.1 104 2) + (1 : Int32))) fun (m5 : xmm) => some m5) else some m)) = some z) : fX6_reach_104 v1 v2 m = some z := by
  refine xstV ?_
  show xT 68 0 0 [(0, .ref 104), (1, .int v1), (2, .int v2)] [] m (none, z)
  refine e_aload_n rfl rfl rfl (xnm_no rfl) ?_
  refine e_getR (r := 105) rfl rfl rfl rfl rfl (xnm_no rfl) ?_
  refine e_iload_n rfl rfl (xnm_no rfl) ?_
  obtain ⟨g1, h⟩ := xgd_some h
  refine e_iald rfl g1 (xnm_no rfl) ?_
  refine e_iconst (x := -1) rfl (by decide) (xnm_no rfl) ?_
  refine e_icmp_ne (t := 46) rfl rfl (xnm_no rfl) (xnm_no rfl) h (fun h => ?_) (fun h => ?_)
  · cases h
    exact e_retV rfl rfl
  · refine e_aload_n rfl rfl rfl (xnm_no rfl) ?_
    refine e_getI rfl rfl rfl rfl (xnm_no rfl) ?_
    refine e_bipush (x := 64) rfl (by decide) (xnm_no rfl) ?_
    refine e_icmp_ge (t := 46) rfl rfl (xnm_no rfl) (xnm_no rfl) h (fun h => ?_) (fun h => ?_)
    · cases h
      exact e_retV rfl rfl
    · refine e_aload_n rfl rfl rfl (xnm_no rfl) ?_
      refine e_getR (r := 105) rfl rfl rfl rfl rfl (xnm_no rfl) ?_
      refine e_iload_n rfl rfl (xnm_no rfl) ?_
      refine e_iload_n rfl rfl (xnm_no rfl) ?_
      refine e_iast rfl g1 (xnm_no rfl) ?_
      replace h := xlt_b h
      refine e_aload_n rfl rfl rfl (xnm_no rfl) ?_
      refine e_getR (r := 106) rfl rfl rfl rfl rfl (xnm_no rfl) ?_
      refine e_aload_n rfl rfl rfl (xnm_no rfl) ?_
      refine e_getI rfl rfl rfl rfl (xnm_no rfl) ?_
      refine e_iload_n rfl rfl (xnm_no rfl) ?_
      obtain ⟨g3, h⟩ := xgd_some h
      refine e_iast rfl g3 (xnm_no rfl) ?_
      replace h := xlt_b h
      refine e_aload_n rfl rfl rfl (xnm_no rfl) ?_
      refine e_dup rfl rfl (xnm_no rfl) ?_
      refine e_getI rfl rfl rfl rfl (xnm_no rfl) ?_
      refine e_iconst (x := 1) rfl (by decide) (xnm_no rfl) ?_
      refine e_iadd rfl (xnm_no rfl) ?_
      refine e_putI rfl rfl rfl rfl (xnm_no rfl) ?_
      replace h := xlt_b h
      cases h
      exact e_retV rfl rfl
set_option maxRecDepth 4000 in
theorem fX6_reachForced_104_i (v1 : Nat) (v2 : Int32) (m : xmm) {z : xmm} (h : (xgd (!(Nat.beq v1 1999)) (xgd (xia 1 v1 (v2 / (8 : Int32))) (xgd (xia 1 v1 (v2 - v2 / (8 : Int32) * (8 : Int32))) (xlt (((m.1 v1 ((v2 / (8 : Int32))).toNatClampNeg) &&& ((m.1 v1 ((v2 - v2 / (8 : Int32) * (8 : Int32))).toNatClampNeg) ^^^ (-1 : Int32))) &&& (((1 : Int32) <<< ((v2 - v2 / (8 : Int32) * (8 : Int32)) &&& 31)) ^^^ (-1 : Int32))) fun (x4 : Int32) => xlt (((m.1 v1 ((v2 - v2 / (8 : Int32) * (8 : Int32))).toNatClampNeg) &&& ((m.1 v1 ((v2 / (8 : Int32))).toNatClampNeg) ^^^ (-1 : Int32))) &&& (((1 : Int32) <<< ((v2 / (8 : Int32)) &&& 31)) ^^^ (-1 : Int32))) fun (x5 : Int32) => bX6_reachForced_104_51 v2 (v2 / (8 : Int32)) (v2 - v2 / (8 : Int32) * (8 : Int32)) x4 x5 (0 : Int32) m)))) = some z) : fX6_reachForced_104 v1 v2 m = some z := by
  refine xstV ?_
  show xT 67 1 0 [(0, .ref 104), (1, .ref v1), (2, .int v2)] [] m (none, z)
  refine e_iload_n rfl rfl (xnm_no rfl) ?_
  refine e_bipush (x := 8) rfl (by decide) (xnm_no rfl) ?_
  refine e_idiv rfl (by decide) (xnm_no rfl) ?_
  refine e_istore_n rfl rfl (xnm_no rfl) ?_
  refine e_iload_n rfl rfl (xnm_no rfl) ?_
  refine e_bipush (x := 8) rfl (by decide) (xnm_no rfl) ?_
  refine e_irem rfl (by decide) (xnm_no rfl) ?_
  refine e_istore rfl rfl (xnm_no rfl) ?_
  obtain ⟨g1, h⟩ := xgd_some h
  refine e_aload_n rfl rfl (xnb g1) (xnm_no rfl) ?_
  refine e_iload_n rfl rfl (xnm_no rfl) ?_
  obtain ⟨g2, h⟩ := xgd_some h
  refine e_iald rfl g2 (xnm_no rfl) ?_
  refine e_aload_n rfl rfl (xnb g1) (xnm_no rfl) ?_
  refine e_iload rfl rfl (xnm_no rfl) ?_
  obtain ⟨g3, h⟩ := xgd_some h
  refine e_iald rfl g3 (xnm_no rfl) ?_
  refine e_iconst (x := -1) rfl (by decide) (xnm_no rfl) ?_
  refine e_ixor rfl (xnm_no rfl) ?_
  refine e_iand rfl (xnm_no rfl) ?_
  refine e_iconst (x := 1) rfl (by decide) (xnm_no rfl) ?_
  refine e_iload rfl rfl (xnm_no rfl) ?_
  refine e_ishl rfl (xnm_no rfl) ?_
  refine e_iconst (x := -1) rfl (by decide) (xnm_no rfl) ?_
  refine e_ixor rfl (xnm_no rfl) ?_
  refine e_iand rfl (xnm_no rfl) ?_
  replace h := xlt_b h
  refine e_istore rfl rfl (xnm_no rfl) ?_
  refine e_aload_n rfl rfl (xnb g1) (xnm_no rfl) ?_
  refine e_iload rfl rfl (xnm_no rfl) ?_
  refine e_iald rfl g3 (xnm_no rfl) ?_
  refine e_aload_n rfl rfl (xnb g1) (xnm_no rfl) ?_
  refine e_iload_n rfl rfl (xnm_no rfl) ?_
  refine e_iald rfl g2 (xnm_no rfl) ?_
  refine e_iconst (x := -1) rfl (by decide) (xnm_no rfl) ?_
  refine e_ixor rfl (xnm_no rfl) ?_
  refine e_iand rfl (xnm_no rfl) ?_
  refine e_iconst (x := 1) rfl (by decide) (xnm_no rfl) ?_
  refine e_iload_n rfl rfl (xnm_no rfl) ?_
  refine e_ishl rfl (xnm_no rfl) ?_
  refine e_iconst (x := -1) rfl (by decide) (xnm_no rfl) ?_
  refine e_ixor rfl (xnm_no rfl) ?_
  refine e_iand rfl (xnm_no rfl) ?_
  replace h := xlt_b h
  refine e_istore rfl rfl (xnm_no rfl) ?_
  refine e_iconst (x := 0) rfl (by decide) (xnm_no rfl) ?_
  refine e_istore rfl rfl rfl ?_
  exact xlfV h
set_option maxRecDepth 4000 in
theorem bX6_reachForced_104_51_i (v2 : Int32) (v3 : Int32) (v4 : Int32) (v5 : Int32) (v6 : Int32) (v7 : Int32) (m : xmm) {z : xmm} (h : (if (8 : Int32) ≤ v7 then some m else (fX11_contains v5 v7 m).bind fun (w1 : Int32 × xmm) => if w1.1 = 0 then bX6_reachForced_104_86 v2 v3 v4 v5 v6 v7 w1.2 else (fX11_arrowFrom v3 v7 w1.2).bind fun (w3 : Int32 × xmm) => xgd (xinb 64 v2) ((fX6_reach_104 w3.1 ((w3.2.1 105 (v2).toNatClampNeg) + (1 : Int32)) w3.2).bind fun (w6 : xmm) => bX6_reachForced_104_86 v2 v3 v4 v5 v6 v7 w6)) = some z) : bX6_reachForced_104_51 v2 v3 v4 v5 v6 v7 m = some z := by
  refine xstV ?_
  show xT 67 1 51 [(0, .ref 104), (2, .int v2), (3, .int v3), (4, .int v4), (5, .int v5), (6, .int v6), (7, .int v7)] [] m (none, z)
  refine e_iload rfl rfl (xnm_no rfl) ?_
  refine e_bipush (x := 8) rfl (by decide) (xnm_no rfl) ?_
  refine e_icmp_ge (t := 121) rfl rfl (xnm_no rfl) (xnm_no rfl) h (fun h => ?_) (fun h => ?_)
  · cases h
    exact e_retV rfl rfl
  · refine e_iload rfl rfl (xnm_no rfl) ?_
    refine e_iload rfl rfl (xnm_no rfl) ?_
    obtain ⟨w1, hw2, h⟩ := xbd_some h
    refine e_cIS (hc := hw2) (rest := []) rfl rfl rfl rfl rfl rfl rfl rfl (xnm_no rfl) ?_
    refine e_if_eq (t := 86) rfl rfl rfl (xnm_no rfl) h (fun h => ?_) (fun h => ?_)
    · exact xlfV h
    · refine e_aload_n rfl rfl rfl (xnm_no rfl) ?_
      refine e_iload_n rfl rfl (xnm_no rfl) ?_
      refine e_iload rfl rfl (xnm_no rfl) ?_
      obtain ⟨w3, hw4, h⟩ := xbd_some h
      refine e_cIS (hc := hw4) (rest := [.ref 104]) rfl rfl rfl rfl rfl rfl rfl rfl (xnm_no rfl) ?_
      refine e_aload_n rfl rfl rfl (xnm_no rfl) ?_
      refine e_getR (r := 105) rfl rfl rfl rfl rfl (xnm_no rfl) ?_
      refine e_iload_n rfl rfl (xnm_no rfl) ?_
      obtain ⟨g5, h⟩ := xgd_some h
      refine e_iald rfl g5 (xnm_no rfl) ?_
      refine e_iconst (x := 1) rfl (by decide) (xnm_no rfl) ?_
      refine e_iadd rfl (xnm_no rfl) ?_
      obtain ⟨w6, hw7, h⟩ := xbd_some h
      refine e_cVV (hc := hw7) (rest := []) rfl rfl rfl rfl rfl rfl rfl rfl rfl ?_
      exact xlfV h
set_option maxRecDepth 4000 in
theorem bX6_reachForced_104_86_i (v2 : Int32) (v3 : Int32) (v4 : Int32) (v5 : Int32) (v6 : Int32) (v7 : Int32) (m : xmm) {z : xmm} (h : ((fX11_contains v6 v7 m).bind fun (w1 : Int32 × xmm) => if w1.1 = 0 then bX6_reachForced_104_51 v2 v3 v4 v5 v6 (v7 + (1 : Int32)) w1.2 else (fX11_arrowFrom v7 v4 w1.2).bind fun (w3 : Int32 × xmm) => xgd (xinb 64 v2) ((fX6_reach_104 w3.1 ((w3.2.1 105 (v2).toNatClampNeg) + (1 : Int32)) w3.2).bind fun (w6 : xmm) => bX6_reachForced_104_51 v2 v3 v4 v5 v6 (v7 + (1 : Int32)) w6)) = some z) : bX6_reachForced_104_86 v2 v3 v4 v5 v6 v7 m = some z := by
  refine xstV ?_
  show xT 67 1 86 [(0, .ref 104), (2, .int v2), (3, .int v3), (4, .int v4), (5, .int v5), (6, .int v6), (7, .int v7)] [] m (none, z)
  refine e_iload rfl rfl (xnm_no rfl) ?_
  refine e_iload rfl rfl (xnm_no rfl) ?_
  obtain ⟨w1, hw2, h⟩ := xbd_some h
  refine e_cIS (hc := hw2) (rest := []) rfl rfl rfl rfl rfl rfl rfl rfl (xnm_no rfl) ?_
  refine e_if_eq (t := 115) rfl rfl (xnm_no rfl) (xnm_no rfl) h (fun h => ?_) (fun h => ?_)
  · refine e_iinc (y := 1) rfl rfl rfl (by decide) (xnm_no rfl) ?_
    refine e_goto (t := 51) rfl rfl rfl ?_
    exact xlfV h
  · refine e_aload_n rfl rfl rfl (xnm_no rfl) ?_
    refine e_iload rfl rfl (xnm_no rfl) ?_
    refine e_iload rfl rfl (xnm_no rfl) ?_
    obtain ⟨w3, hw4, h⟩ := xbd_some h
    refine e_cIS (hc := hw4) (rest := [.ref 104]) rfl rfl rfl rfl rfl rfl rfl rfl (xnm_no rfl) ?_
    refine e_aload_n rfl rfl rfl (xnm_no rfl) ?_
    refine e_getR (r := 105) rfl rfl rfl rfl rfl (xnm_no rfl) ?_
    refine e_iload_n rfl rfl (xnm_no rfl) ?_
    obtain ⟨g5, h⟩ := xgd_some h
    refine e_iald rfl g5 (xnm_no rfl) ?_
    refine e_iconst (x := 1) rfl (by decide) (xnm_no rfl) ?_
    refine e_iadd rfl (xnm_no rfl) ?_
    obtain ⟨w6, hw7, h⟩ := xbd_some h
    refine e_cVV (hc := hw7) (rest := []) rfl rfl rfl rfl rfl rfl rfl rfl (xnm_no rfl) ?_
    refine e_iinc (y := 1) rfl rfl rfl (by decide) (xnm_no rfl) ?_
    refine e_goto (t := 51) rfl rfl rfl ?_
    exact xlfV h
set_option maxRecDepth 4000 in
theorem fX6_spread_104_i (v1 : Nat) (v2 : Int32) (m : xmm) {z : xmm} (h : (bX6_spread_104_2 v1 v2 (0 : Int32) m) = some z) : fX6_spread_104 v1 v2 m = some z := by
  refine xstV ?_
  show xT 66 2 0 [(0, .ref 104), (1, .ref v1), (2, .int v2)] [] m (none, z)
  refine e_iconst (x := 0) rfl (by decide) (xnm_no rfl) ?_
  refine e_istore_n rfl rfl rfl ?_
  exact xlfV h
set_option maxRecDepth 4000 in
theorem bX6_spread_104_2_i (v1 : Nat) (v2 : Int32) (v3 : Int32) (m : xmm) {z : xmm} (h : (if (64 : Int32) ≤ v3 then xlt (xwi m 104 2 (0 : Int32)) fun (m1 : xmm) => (fX6_reach_104 v2 (0 : Int32) m1).bind fun (w2 : xmm) => bX6_spread_104_34 v1 (0 : Int32) w2 else xgd (xinb 64 v3) (xlt (xwi m 105 (v3).toNatClampNeg (-1 : Int32)) fun (m5 : xmm) => bX6_spread_104_2 v1 v2 (v3 + (1 : Int32)) m5)) = some z) : bX6_spread_104_2 v1 v2 v3 m = some z := by
  refine xstV ?_
  show xT 66 2 2 [(0, .ref 104), (1, .ref v1), (2, .int v2), (3, .int v3)] [] m (none, z)
  refine e_iload_n rfl rfl (xnm_no rfl) ?_
  refine e_bipush (x := 64) rfl (by decide) (xnm_no rfl) ?_
  refine e_icmp_ge (t := 21) rfl rfl (xnm_no rfl) (xnm_no rfl) h (fun h => ?_) (fun h => ?_)
  · refine e_aload_n rfl rfl rfl (xnm_no rfl) ?_
    refine e_iconst (x := 0) rfl (by decide) (xnm_no rfl) ?_
    refine e_putI rfl rfl rfl rfl (xnm_no rfl) ?_
    replace h := xlt_b h
    refine e_aload_n rfl rfl rfl (xnm_no rfl) ?_
    refine e_iload_n rfl rfl (xnm_no rfl) ?_
    refine e_iconst (x := 0) rfl (by decide) (xnm_no rfl) ?_
    obtain ⟨w2, hw3, h⟩ := xbd_some h
    refine e_cVV (hc := hw3) (rest := []) rfl rfl rfl rfl rfl rfl rfl rfl (xnm_no rfl) ?_
    refine e_iconst (x := 0) rfl (by decide) (xnm_no rfl) ?_
    refine e_istore_n rfl rfl rfl ?_
    exact xlfV h
  · refine e_aload_n rfl rfl rfl (xnm_no rfl) ?_
    refine e_getR (r := 105) rfl rfl rfl rfl rfl (xnm_no rfl) ?_
    refine e_iload_n rfl rfl (xnm_no rfl) ?_
    refine e_iconst (x := -1) rfl (by decide) (xnm_no rfl) ?_
    obtain ⟨g4, h⟩ := xgd_some h
    refine e_iast rfl g4 (xnm_no rfl) ?_
    replace h := xlt_b h
    refine e_iinc (y := 1) rfl rfl rfl (by decide) (xnm_no rfl) ?_
    refine e_goto (t := 2) rfl rfl rfl ?_
    exact xlfV h
set_option maxRecDepth 4000 in
theorem bX6_spread_104_34_i (v1 : Nat) (v3 : Int32) (m : xmm) {z : xmm} (h : (if (m.1 104 2) ≤ v3 then some m else if (64 : Int32) ≤ v3 then some m else xgd (!(Nat.beq v1 1999)) (xgd (xinb 64 v3) ((fX6_reachForced_104 v1 (m.1 106 (v3).toNatClampNeg) m).bind fun (w3 : xmm) => bX6_spread_104_34 v1 (v3 + (1 : Int32)) w3))) = some z) : bX6_spread_104_34 v1 v3 m = some z := by
  refine xstV ?_
  show xT 66 2 34 [(0, .ref 104), (1, .ref v1), (3, .int v3)] [] m (none, z)
  refine e_iload_n rfl rfl (xnm_no rfl) ?_
  refine e_aload_n rfl rfl rfl (xnm_no rfl) ?_
  refine e_getI rfl rfl rfl rfl (xnm_no rfl) ?_
  refine e_icmp_ge (t := 65) rfl rfl (xnm_no rfl) (xnm_no rfl) h (fun h => ?_) (fun h => ?_)
  · cases h
    exact e_retV rfl rfl
  · refine e_iload_n rfl rfl (xnm_no rfl) ?_
    refine e_bipush (x := 64) rfl (by decide) (xnm_no rfl) ?_
    refine e_icmp_ge (t := 65) rfl rfl (xnm_no rfl) (xnm_no rfl) h (fun h => ?_) (fun h => ?_)
    · cases h
      exact e_retV rfl rfl
    · refine e_aload_n rfl rfl rfl (xnm_no rfl) ?_
      obtain ⟨g1, h⟩ := xgd_some h
      refine e_aload_n rfl rfl (xnb g1) (xnm_no rfl) ?_
      refine e_aload_n rfl rfl rfl (xnm_no rfl) ?_
      refine e_getR (r := 106) rfl rfl rfl rfl rfl (xnm_no rfl) ?_
      refine e_iload_n rfl rfl (xnm_no rfl) ?_
      obtain ⟨g2, h⟩ := xgd_some h
      refine e_iald rfl g2 (xnm_no rfl) ?_
      obtain ⟨w3, hw4, h⟩ := xbd_some h
      refine e_cVV (hc := hw4) (rest := []) rfl rfl rfl rfl rfl rfl rfl rfl (xnm_no rfl) ?_
      refine e_iinc (y := 1) rfl rfl rfl (by decide) (xnm_no rfl) ?_
      refine e_goto (t := 34) rfl rfl rfl ?_
      exact xlfV h
set_option maxRecDepth 4000 in
theorem fX1_isOdd_103_i (v1 : Int32) (m : xmm) {z : Int32 × xmm} (h : (xgd (xinb 64 v1) ((fX11_against v1 m).bind fun (w2 : Int32 × xmm) => xgd (xinb 64 w2.1) (if (m.1 108 (v1).toNatClampNeg) = (w2.2.1 108 (w2.1).toNatClampNeg) then some ((1 : Int32), w2.2) else some ((0 : Int32), w2.2)))) = some z) : fX1_isOdd_103 v1 m = some z := by
  refine xstI ?_
  show xT 13 2 0 [(0, .ref 103), (1, .int v1)] [] m (some (.int z.1), z.2)
  refine e_aload_n rfl rfl rfl (xnm_no rfl) ?_
  refine e_getR (r := 108) rfl rfl rfl rfl rfl (xnm_no rfl) ?_
  refine e_iload_n rfl rfl (xnm_no rfl) ?_
  obtain ⟨g1, h⟩ := xgd_some h
  refine e_iald rfl g1 (xnm_no rfl) ?_
  refine e_aload_n rfl rfl rfl (xnm_no rfl) ?_
  refine e_getR (r := 108) rfl rfl rfl rfl rfl (xnm_no rfl) ?_
  refine e_iload_n rfl rfl (xnm_no rfl) ?_
  obtain ⟨w2, hw3, h⟩ := xbd_some h
  refine e_cIS (hc := hw3) (rest := [.ref 108, .int _]) rfl rfl rfl rfl rfl rfl rfl rfl (xnm_no rfl) ?_
  obtain ⟨g4, h⟩ := xgd_some h
  refine e_iald rfl g4 (xnm_no rfl) ?_
  refine e_icmp_ne (t := 22) rfl rfl (xnm_no rfl) (xnm_no rfl) h (fun h => ?_) (fun h => ?_)
  · refine e_iconst (x := 0) rfl (by decide) (xnm_no rfl) ?_
    cases h
    exact e_retI rfl (by decide)
  · refine e_iconst (x := 1) rfl (by decide) (xnm_no rfl) ?_
    refine e_goto (t := 23) rfl rfl (xnm_no rfl) ?_
    cases h
    exact e_retI rfl (by decide)
set_option maxRecDepth 4000 in
theorem fX1_addClass_103_i (v1 : Int32) (m : xmm) {z : xmm} (h : ((fX6_spread_104 107 v1 m).bind fun (w1 : xmm) => bX1_addClass_103_14 v1 (0 : Int32) w1) = some z) : fX1_addClass_103 v1 m = some z := by
  refine xstV ?_
  show xT 8 3 0 [(0, .ref 103), (1, .int v1)] [] m (none, z)
  refine e_aload_n rfl rfl rfl (xnm_no rfl) ?_
  refine e_getR (r := 104) rfl rfl rfl rfl rfl (xnm_no rfl) ?_
  refine e_aload_n rfl rfl rfl (xnm_no rfl) ?_
  refine e_getR (r := 107) rfl rfl rfl rfl rfl (xnm_no rfl) ?_
  refine e_iload_n rfl rfl (xnm_no rfl) ?_
  obtain ⟨w1, hw2, h⟩ := xbd_some h
  refine e_cVV (hc := hw2) (rest := []) rfl rfl rfl rfl rfl rfl rfl rfl (xnm_no rfl) ?_
  refine e_iconst (x := 0) rfl (by decide) (xnm_no rfl) ?_
  refine e_istore_n rfl rfl rfl ?_
  exact xlfV h
set_option maxRecDepth 4000 in
theorem bX1_addClass_103_14_i (v1 : Int32) (v2 : Int32) (m : xmm) {z : xmm} (h : (if (m.1 104 2) ≤ v2 then xlt (xwi m 103 3 ((m.1 103 3) + (1 : Int32))) fun (m1 : xmm) => (fX1_isOdd_103 v1 m1).bind fun (w2 : Int32 × xmm) => if w2.1 = 0 then some w2.2 else xlt (xwi w2.2 103 4 ((w2.2.1 103 4) + (1 : Int32))) fun (m4 : xmm) => some m4 else xgd (xinb 64 v2) (xgd (xinb 64 (m.1 106 (v2).toNatClampNeg)) (xlt (xwi m 108 ((m.1 106 (v2).toNatClampNeg)).toNatClampNeg (m.1 103 3)) fun (m7 : xmm) => bX1_addClass_103_14 v1 (v2 + (1 : Int32)) m7))) = some z) : bX1_addClass_103_14 v1 v2 m = some z := by
  refine xstV ?_
  show xT 8 3 14 [(0, .ref 103), (1, .int v1), (2, .int v2)] [] m (none, z)
  refine e_iload_n rfl rfl (xnm_no rfl) ?_
  refine e_aload_n rfl rfl rfl (xnm_no rfl) ?_
  refine e_getR (r := 104) rfl rfl rfl rfl rfl (xnm_no rfl) ?_
  refine e_getI rfl rfl rfl rfl (xnm_no rfl) ?_
  refine e_icmp_ge (t := 49) rfl rfl (xnm_no rfl) (xnm_no rfl) h (fun h => ?_) (fun h => ?_)
  · refine e_aload_n rfl rfl rfl (xnm_no rfl) ?_
    refine e_dup rfl rfl (xnm_no rfl) ?_
    refine e_getI rfl rfl rfl rfl (xnm_no rfl) ?_
    refine e_iconst (x := 1) rfl (by decide) (xnm_no rfl) ?_
    refine e_iadd rfl (xnm_no rfl) ?_
    refine e_putI rfl rfl rfl rfl (xnm_no rfl) ?_
    replace h := xlt_b h
    refine e_aload_n rfl rfl rfl (xnm_no rfl) ?_
    refine e_iload_n rfl rfl (xnm_no rfl) ?_
    obtain ⟨w2, hw3, h⟩ := xbd_some h
    refine e_cIV (hc := hw3) (rest := []) rfl rfl rfl rfl rfl rfl rfl rfl (xnm_no rfl) ?_
    refine e_if_eq (t := 77) rfl rfl (xnm_no rfl) (xnm_no rfl) h (fun h => ?_) (fun h => ?_)
    · cases h
      exact e_retV rfl rfl
    · refine e_aload_n rfl rfl rfl (xnm_no rfl) ?_
      refine e_dup rfl rfl (xnm_no rfl) ?_
      refine e_getI rfl rfl rfl rfl (xnm_no rfl) ?_
      refine e_iconst (x := 1) rfl (by decide) (xnm_no rfl) ?_
      refine e_iadd rfl (xnm_no rfl) ?_
      refine e_putI rfl rfl rfl rfl (xnm_no rfl) ?_
      replace h := xlt_b h
      cases h
      exact e_retV rfl rfl
  · refine e_aload_n rfl rfl rfl (xnm_no rfl) ?_
    refine e_getR (r := 108) rfl rfl rfl rfl rfl (xnm_no rfl) ?_
    refine e_aload_n rfl rfl rfl (xnm_no rfl) ?_
    refine e_getR (r := 104) rfl rfl rfl rfl rfl (xnm_no rfl) ?_
    refine e_getR (r := 106) rfl rfl rfl rfl rfl (xnm_no rfl) ?_
    refine e_iload_n rfl rfl (xnm_no rfl) ?_
    obtain ⟨g5, h⟩ := xgd_some h
    refine e_iald rfl g5 (xnm_no rfl) ?_
    refine e_aload_n rfl rfl rfl (xnm_no rfl) ?_
    refine e_getI rfl rfl rfl rfl (xnm_no rfl) ?_
    obtain ⟨g6, h⟩ := xgd_some h
    refine e_iast rfl g6 (xnm_no rfl) ?_
    replace h := xlt_b h
    refine e_iinc (y := 1) rfl rfl rfl (by decide) (xnm_no rfl) ?_
    refine e_goto (t := 14) rfl rfl rfl ?_
    exact xlfV h
set_option maxRecDepth 4000 in
theorem fX1_solve_103_i (v1 : Nat) (m : xmm) {z : xmm} (h : (bX1_solve_103_2 v1 (0 : Int32) m) = some z) : fX1_solve_103 v1 m = some z := by
  refine xstV ?_
  show xT 7 4 0 [(0, .ref 103), (1, .ref v1)] [] m (none, z)
  refine e_iconst (x := 0) rfl (by decide) (xnm_no rfl) ?_
  refine e_istore_n rfl rfl rfl ?_
  exact xlfV h
set_option maxRecDepth 4000 in
theorem bX1_solve_103_2_i (v1 : Nat) (v2 : Int32) (m : xmm) {z : xmm} (h : (if (8 : Int32) ≤ v2 then bX1_solve_103_25 (0 : Int32) m else xgd (!(Nat.beq v1 1999)) (xgd (xia 1 v1 v2) (xgd (xinb 8 v2) (xlt (xwi m 107 (v2).toNatClampNeg (m.1 v1 (v2).toNatClampNeg)) fun (m4 : xmm) => bX1_solve_103_2 v1 (v2 + (1 : Int32)) m4)))) = some z) : bX1_solve_103_2 v1 v2 m = some z := by
  refine xstV ?_
  show xT 7 4 2 [(0, .ref 103), (1, .ref v1), (2, .int v2)] [] m (none, z)
  refine e_iload_n rfl rfl (xnm_no rfl) ?_
  refine e_bipush (x := 8) rfl (by decide) (xnm_no rfl) ?_
  refine e_icmp_ge (t := 23) rfl rfl (xnm_no rfl) (xnm_no rfl) h (fun h => ?_) (fun h => ?_)
  · refine e_iconst (x := 0) rfl (by decide) (xnm_no rfl) ?_
    refine e_istore_n rfl rfl rfl ?_
    exact xlfV h
  · refine e_aload_n rfl rfl rfl (xnm_no rfl) ?_
    refine e_getR (r := 107) rfl rfl rfl rfl rfl (xnm_no rfl) ?_
    refine e_iload_n rfl rfl (xnm_no rfl) ?_
    obtain ⟨g1, h⟩ := xgd_some h
    refine e_aload_n rfl rfl (xnb g1) (xnm_no rfl) ?_
    refine e_iload_n rfl rfl (xnm_no rfl) ?_
    obtain ⟨g2, h⟩ := xgd_some h
    refine e_iald rfl g2 (xnm_no rfl) ?_
    obtain ⟨g3, h⟩ := xgd_some h
    refine e_iast rfl g3 (xnm_no rfl) ?_
    replace h := xlt_b h
    refine e_iinc (y := 1) rfl rfl rfl (by decide) (xnm_no rfl) ?_
    refine e_goto (t := 2) rfl rfl rfl ?_
    exact xlfV h
set_option maxRecDepth 4000 in
theorem bX1_solve_103_25_i (v2 : Int32) (m : xmm) {z : xmm} (h : (if (64 : Int32) ≤ v2 then xlt (xwi m 103 3 (0 : Int32)) fun (m1 : xmm) => xlt (xwi m1 103 4 (0 : Int32)) fun (m2 : xmm) => bX1_solve_103_56 (0 : Int32) m2 else xgd (xinb 64 v2) (xlt (xwi m 108 (v2).toNatClampNeg (-1 : Int32)) fun (m4 : xmm) => bX1_solve_103_25 (v2 + (1 : Int32)) m4)) = some z) : bX1_solve_103_25 v2 m = some z := by
  refine xstV ?_
  show xT 7 4 25 [(0, .ref 103), (2, .int v2)] [] m (none, z)
  refine e_iload_n rfl rfl (xnm_no rfl) ?_
  refine e_bipush (x := 64) rfl (by decide) (xnm_no rfl) ?_
  refine e_icmp_ge (t := 44) rfl rfl (xnm_no rfl) (xnm_no rfl) h (fun h => ?_) (fun h => ?_)
  · refine e_aload_n rfl rfl rfl (xnm_no rfl) ?_
    refine e_iconst (x := 0) rfl (by decide) (xnm_no rfl) ?_
    refine e_putI rfl rfl rfl rfl (xnm_no rfl) ?_
    replace h := xlt_b h
    refine e_aload_n rfl rfl rfl (xnm_no rfl) ?_
    refine e_iconst (x := 0) rfl (by decide) (xnm_no rfl) ?_
    refine e_putI rfl rfl rfl rfl (xnm_no rfl) ?_
    replace h := xlt_b h
    refine e_iconst (x := 0) rfl (by decide) (xnm_no rfl) ?_
    refine e_istore_n rfl rfl rfl ?_
    exact xlfV h
  · refine e_aload_n rfl rfl rfl (xnm_no rfl) ?_
    refine e_getR (r := 108) rfl rfl rfl rfl rfl (xnm_no rfl) ?_
    refine e_iload_n rfl rfl (xnm_no rfl) ?_
    refine e_iconst (x := -1) rfl (by decide) (xnm_no rfl) ?_
    obtain ⟨g3, h⟩ := xgd_some h
    refine e_iast rfl g3 (xnm_no rfl) ?_
    replace h := xlt_b h
    refine e_iinc (y := 1) rfl rfl rfl (by decide) (xnm_no rfl) ?_
    refine e_goto (t := 25) rfl rfl rfl ?_
    exact xlfV h
set_option maxRecDepth 4000 in
theorem bX1_solve_103_56_i (v2 : Int32) (m : xmm) {z : xmm} (h : (if (64 : Int32) ≤ v2 then some m else (fX11_isArrow 107 v2 m).bind fun (w1 : Int32 × xmm) => if w1.1 = 0 then bX1_solve_103_56 (v2 + (1 : Int32)) w1.2 else xgd (xinb 64 v2) (if (w1.2.1 108 (v2).toNatClampNeg) = (-1 : Int32) then (fX1_addClass_103 v2 w1.2).bind fun (w4 : xmm) => bX1_solve_103_56 (v2 + (1 : Int32)) w4 else bX1_solve_103_56 (v2 + (1 : Int32)) w1.2)) = some z) : bX1_solve_103_56 v2 m = some z := by
  refine xstV ?_
  show xT 7 4 56 [(0, .ref 103), (2, .int v2)] [] m (none, z)
  refine e_iload_n rfl rfl (xnm_no rfl) ?_
  refine e_bipush (x := 64) rfl (by decide) (xnm_no rfl) ?_
  refine e_icmp_ge (t := 94) rfl rfl (xnm_no rfl) (xnm_no rfl) h (fun h => ?_) (fun h => ?_)
  · cases h
    exact e_retV rfl rfl
  · refine e_aload_n rfl rfl rfl (xnm_no rfl) ?_
    refine e_getR (r := 107) rfl rfl rfl rfl rfl (xnm_no rfl) ?_
    refine e_iload_n rfl rfl (xnm_no rfl) ?_
    obtain ⟨w1, hw2, h⟩ := xbd_some h
    refine e_cIS (hc := hw2) (rest := []) rfl rfl rfl rfl rfl rfl rfl rfl (xnm_no rfl) ?_
    refine e_if_eq (t := 88) rfl rfl (xnm_no rfl) (xnm_no rfl) h (fun h => ?_) (fun h => ?_)
    · refine e_iinc (y := 1) rfl rfl rfl (by decide) (xnm_no rfl) ?_
      refine e_goto (t := 56) rfl rfl rfl ?_
      exact xlfV h
    · refine e_aload_n rfl rfl rfl (xnm_no rfl) ?_
      refine e_getR (r := 108) rfl rfl rfl rfl rfl (xnm_no rfl) ?_
      refine e_iload_n rfl rfl (xnm_no rfl) ?_
      obtain ⟨g3, h⟩ := xgd_some h
      refine e_iald rfl g3 (xnm_no rfl) ?_
      refine e_iconst (x := -1) rfl (by decide) (xnm_no rfl) ?_
      refine e_icmp_ne (t := 88) rfl rfl (xnm_no rfl) (xnm_no rfl) h (fun h => ?_) (fun h => ?_)
      · refine e_iinc (y := 1) rfl rfl rfl (by decide) (xnm_no rfl) ?_
        refine e_goto (t := 56) rfl rfl rfl ?_
        exact xlfV h
      · refine e_aload_n rfl rfl rfl (xnm_no rfl) ?_
        refine e_iload_n rfl rfl (xnm_no rfl) ?_
        obtain ⟨w4, hw5, h⟩ := xbd_some h
        refine e_cVV (hc := hw5) (rest := []) rfl rfl rfl rfl rfl rfl rfl rfl (xnm_no rfl) ?_
        refine e_iinc (y := 1) rfl rfl rfl (by decide) (xnm_no rfl) ?_
        refine e_goto (t := 56) rfl rfl rfl ?_
        exact xlfV h
set_option maxRecDepth 4000 in
theorem fX1_isOrdered_97_i (m : xmm) {z : Int32 × xmm} (h : (if (m.1 97 4) = 0 then some ((1 : Int32), m) else some ((0 : Int32), m)) = some z) : fX1_isOrdered_97 m = some z := by
  refine xstI ?_
  show xT 9 0 0 [(0, .ref 97)] [] m (some (.int z.1), z.2)
  refine e_aload_n rfl rfl rfl (xnm_no rfl) ?_
  refine e_getI rfl rfl rfl rfl (xnm_no rfl) ?_
  refine e_if_ne (t := 11) rfl rfl (xnm_no rfl) (xnm_no rfl) h (fun h => ?_) (fun h => ?_)
  · refine e_iconst (x := 0) rfl (by decide) (xnm_no rfl) ?_
    cases h
    exact e_retI rfl (by decide)
  · refine e_iconst (x := 1) rfl (by decide) (xnm_no rfl) ?_
    refine e_goto (t := 12) rfl rfl (xnm_no rfl) ?_
    cases h
    exact e_retI rfl (by decide)
set_option maxRecDepth 4000 in
theorem fX6_reach_110_i (v1 : Int32) (v2 : Int32) (m : xmm) {z : xmm} (h : (xgd (xinb 64 v1) (if (m.1 111 (v1).toNatClampNeg) = (-1 : Int32) then if (64 : Int32) ≤ (m.1 110 2) then some m else xlt (xwi m 111 (v1).toNatClampNeg v2) fun (m2 : xmm) => xgd (xinb 64 (m2.1 110 2)) (xlt (xwi m2 112 ((m2.1 110 2)).toNatClampNeg v1) fun (m4 : xmm) => xlt (xwi m4 110 2 ((m4.1 110 2) + (1 : Int32))) fun (m5 : xmm) => some m5) else some m)) = some z) : fX6_reach_110 v1 v2 m = some z := by
  refine xstV ?_
  show xT 68 0 0 [(0, .ref 110), (1, .int v1), (2, .int v2)] [] m (none, z)
  refine e_aload_n rfl rfl rfl (xnm_no rfl) ?_
  refine e_getR (r := 111) rfl rfl rfl rfl rfl (xnm_no rfl) ?_
  refine e_iload_n rfl rfl (xnm_no rfl) ?_
  obtain ⟨g1, h⟩ := xgd_some h
  refine e_iald rfl g1 (xnm_no rfl) ?_
  refine e_iconst (x := -1) rfl (by decide) (xnm_no rfl) ?_
  refine e_icmp_ne (t := 46) rfl rfl (xnm_no rfl) (xnm_no rfl) h (fun h => ?_) (fun h => ?_)
  · cases h
    exact e_retV rfl rfl
  · refine e_aload_n rfl rfl rfl (xnm_no rfl) ?_
    refine e_getI rfl rfl rfl rfl (xnm_no rfl) ?_
    refine e_bipush (x := 64) rfl (by decide) (xnm_no rfl) ?_
    refine e_icmp_ge (t := 46) rfl rfl (xnm_no rfl) (xnm_no rfl) h (fun h => ?_) (fun h => ?_)
    · cases h
      exact e_retV rfl rfl
    · refine e_aload_n rfl rfl rfl (xnm_no rfl) ?_
      refine e_getR (r := 111) rfl rfl rfl rfl rfl (xnm_no rfl) ?_
      refine e_iload_n rfl rfl (xnm_no rfl) ?_
      refine e_iload_n rfl rfl (xnm_no rfl) ?_
      refine e_iast rfl g1 (xnm_no rfl) ?_
      replace h := xlt_b h
      refine e_aload_n rfl rfl rfl (xnm_no rfl) ?_
      refine e_getR (r := 112) rfl rfl rfl rfl rfl (xnm_no rfl) ?_
      refine e_aload_n rfl rfl rfl (xnm_no rfl) ?_
      refine e_getI rfl rfl rfl rfl (xnm_no rfl) ?_
      refine e_iload_n rfl rfl (xnm_no rfl) ?_
      obtain ⟨g3, h⟩ := xgd_some h
      refine e_iast rfl g3 (xnm_no rfl) ?_
      replace h := xlt_b h
      refine e_aload_n rfl rfl rfl (xnm_no rfl) ?_
      refine e_dup rfl rfl (xnm_no rfl) ?_
      refine e_getI rfl rfl rfl rfl (xnm_no rfl) ?_
      refine e_iconst (x := 1) rfl (by decide) (xnm_no rfl) ?_
      refine e_iadd rfl (xnm_no rfl) ?_
      refine e_putI rfl rfl rfl rfl (xnm_no rfl) ?_
      replace h := xlt_b h
      cases h
      exact e_retV rfl rfl
set_option maxRecDepth 4000 in
theorem fX6_reachForced_110_i (v1 : Nat) (v2 : Int32) (m : xmm) {z : xmm} (h : (xgd (!(Nat.beq v1 1999)) (xgd (xia 1 v1 (v2 / (8 : Int32))) (xgd (xia 1 v1 (v2 - v2 / (8 : Int32) * (8 : Int32))) (xlt (((m.1 v1 ((v2 / (8 : Int32))).toNatClampNeg) &&& ((m.1 v1 ((v2 - v2 / (8 : Int32) * (8 : Int32))).toNatClampNeg) ^^^ (-1 : Int32))) &&& (((1 : Int32) <<< ((v2 - v2 / (8 : Int32) * (8 : Int32)) &&& 31)) ^^^ (-1 : Int32))) fun (x4 : Int32) => xlt (((m.1 v1 ((v2 - v2 / (8 : Int32) * (8 : Int32))).toNatClampNeg) &&& ((m.1 v1 ((v2 / (8 : Int32))).toNatClampNeg) ^^^ (-1 : Int32))) &&& (((1 : Int32) <<< ((v2 / (8 : Int32)) &&& 31)) ^^^ (-1 : Int32))) fun (x5 : Int32) => bX6_reachForced_110_51 v2 (v2 / (8 : Int32)) (v2 - v2 / (8 : Int32) * (8 : Int32)) x4 x5 (0 : Int32) m)))) = some z) : fX6_reachForced_110 v1 v2 m = some z := by
  refine xstV ?_
  show xT 67 1 0 [(0, .ref 110), (1, .ref v1), (2, .int v2)] [] m (none, z)
  refine e_iload_n rfl rfl (xnm_no rfl) ?_
  refine e_bipush (x := 8) rfl (by decide) (xnm_no rfl) ?_
  refine e_idiv rfl (by decide) (xnm_no rfl) ?_
  refine e_istore_n rfl rfl (xnm_no rfl) ?_
  refine e_iload_n rfl rfl (xnm_no rfl) ?_
  refine e_bipush (x := 8) rfl (by decide) (xnm_no rfl) ?_
  refine e_irem rfl (by decide) (xnm_no rfl) ?_
  refine e_istore rfl rfl (xnm_no rfl) ?_
  obtain ⟨g1, h⟩ := xgd_some h
  refine e_aload_n rfl rfl (xnb g1) (xnm_no rfl) ?_
  refine e_iload_n rfl rfl (xnm_no rfl) ?_
  obtain ⟨g2, h⟩ := xgd_some h
  refine e_iald rfl g2 (xnm_no rfl) ?_
  refine e_aload_n rfl rfl (xnb g1) (xnm_no rfl) ?_
  refine e_iload rfl rfl (xnm_no rfl) ?_
  obtain ⟨g3, h⟩ := xgd_some h
  refine e_iald rfl g3 (xnm_no rfl) ?_
  refine e_iconst (x := -1) rfl (by decide) (xnm_no rfl) ?_
  refine e_ixor rfl (xnm_no rfl) ?_
  refine e_iand rfl (xnm_no rfl) ?_
  refine e_iconst (x := 1) rfl (by decide) (xnm_no rfl) ?_
  refine e_iload rfl rfl (xnm_no rfl) ?_
  refine e_ishl rfl (xnm_no rfl) ?_
  refine e_iconst (x := -1) rfl (by decide) (xnm_no rfl) ?_
  refine e_ixor rfl (xnm_no rfl) ?_
  refine e_iand rfl (xnm_no rfl) ?_
  replace h := xlt_b h
  refine e_istore rfl rfl (xnm_no rfl) ?_
  refine e_aload_n rfl rfl (xnb g1) (xnm_no rfl) ?_
  refine e_iload rfl rfl (xnm_no rfl) ?_
  refine e_iald rfl g3 (xnm_no rfl) ?_
  refine e_aload_n rfl rfl (xnb g1) (xnm_no rfl) ?_
  refine e_iload_n rfl rfl (xnm_no rfl) ?_
  refine e_iald rfl g2 (xnm_no rfl) ?_
  refine e_iconst (x := -1) rfl (by decide) (xnm_no rfl) ?_
  refine e_ixor rfl (xnm_no rfl) ?_
  refine e_iand rfl (xnm_no rfl) ?_
  refine e_iconst (x := 1) rfl (by decide) (xnm_no rfl) ?_
  refine e_iload_n rfl rfl (xnm_no rfl) ?_
  refine e_ishl rfl (xnm_no rfl) ?_
  refine e_iconst (x := -1) rfl (by decide) (xnm_no rfl) ?_
  refine e_ixor rfl (xnm_no rfl) ?_
  refine e_iand rfl (xnm_no rfl) ?_
  replace h := xlt_b h
  refine e_istore rfl rfl (xnm_no rfl) ?_
  refine e_iconst (x := 0) rfl (by decide) (xnm_no rfl) ?_
  refine e_istore rfl rfl rfl ?_
  exact xlfV h
set_option maxRecDepth 4000 in
theorem bX6_reachForced_110_51_i (v2 : Int32) (v3 : Int32) (v4 : Int32) (v5 : Int32) (v6 : Int32) (v7 : Int32) (m : xmm) {z : xmm} (h : (if (8 : Int32) ≤ v7 then some m else (fX11_contains v5 v7 m).bind fun (w1 : Int32 × xmm) => if w1.1 = 0 then bX6_reachForced_110_86 v2 v3 v4 v5 v6 v7 w1.2 else (fX11_arrowFrom v3 v7 w1.2).bind fun (w3 : Int32 × xmm) => xgd (xinb 64 v2) ((fX6_reach_110 w3.1 ((w3.2.1 111 (v2).toNatClampNeg) + (1 : Int32)) w3.2).bind fun (w6 : xmm) => bX6_reachForced_110_86 v2 v3 v4 v5 v6 v7 w6)) = some z) : bX6_reachForced_110_51 v2 v3 v4 v5 v6 v7 m = some z := by
  refine xstV ?_
  show xT 67 1 51 [(0, .ref 110), (2, .int v2), (3, .int v3), (4, .int v4), (5, .int v5), (6, .int v6), (7, .int v7)] [] m (none, z)
  refine e_iload rfl rfl (xnm_no rfl) ?_
  refine e_bipush (x := 8) rfl (by decide) (xnm_no rfl) ?_
  refine e_icmp_ge (t := 121) rfl rfl (xnm_no rfl) (xnm_no rfl) h (fun h => ?_) (fun h => ?_)
  · cases h
    exact e_retV rfl rfl
  · refine e_iload rfl rfl (xnm_no rfl) ?_
    refine e_iload rfl rfl (xnm_no rfl) ?_
    obtain ⟨w1, hw2, h⟩ := xbd_some h
    refine e_cIS (hc := hw2) (rest := []) rfl rfl rfl rfl rfl rfl rfl rfl (xnm_no rfl) ?_
    refine e_if_eq (t := 86) rfl rfl rfl (xnm_no rfl) h (fun h => ?_) (fun h => ?_)
    · exact xlfV h
    · refine e_aload_n rfl rfl rfl (xnm_no rfl) ?_
      refine e_iload_n rfl rfl (xnm_no rfl) ?_
      refine e_iload rfl rfl (xnm_no rfl) ?_
      obtain ⟨w3, hw4, h⟩ := xbd_some h
      refine e_cIS (hc := hw4) (rest := [.ref 110]) rfl rfl rfl rfl rfl rfl rfl rfl (xnm_no rfl) ?_
      refine e_aload_n rfl rfl rfl (xnm_no rfl) ?_
      refine e_getR (r := 111) rfl rfl rfl rfl rfl (xnm_no rfl) ?_
      refine e_iload_n rfl rfl (xnm_no rfl) ?_
      obtain ⟨g5, h⟩ := xgd_some h
      refine e_iald rfl g5 (xnm_no rfl) ?_
      refine e_iconst (x := 1) rfl (by decide) (xnm_no rfl) ?_
      refine e_iadd rfl (xnm_no rfl) ?_
      obtain ⟨w6, hw7, h⟩ := xbd_some h
      refine e_cVV (hc := hw7) (rest := []) rfl rfl rfl rfl rfl rfl rfl rfl rfl ?_
      exact xlfV h
set_option maxRecDepth 4000 in
theorem bX6_reachForced_110_86_i (v2 : Int32) (v3 : Int32) (v4 : Int32) (v5 : Int32) (v6 : Int32) (v7 : Int32) (m : xmm) {z : xmm} (h : ((fX11_contains v6 v7 m).bind fun (w1 : Int32 × xmm) => if w1.1 = 0 then bX6_reachForced_110_51 v2 v3 v4 v5 v6 (v7 + (1 : Int32)) w1.2 else (fX11_arrowFrom v7 v4 w1.2).bind fun (w3 : Int32 × xmm) => xgd (xinb 64 v2) ((fX6_reach_110 w3.1 ((w3.2.1 111 (v2).toNatClampNeg) + (1 : Int32)) w3.2).bind fun (w6 : xmm) => bX6_reachForced_110_51 v2 v3 v4 v5 v6 (v7 + (1 : Int32)) w6)) = some z) : bX6_reachForced_110_86 v2 v3 v4 v5 v6 v7 m = some z := by
  refine xstV ?_
  show xT 67 1 86 [(0, .ref 110), (2, .int v2), (3, .int v3), (4, .int v4), (5, .int v5), (6, .int v6), (7, .int v7)] [] m (none, z)
  refine e_iload rfl rfl (xnm_no rfl) ?_
  refine e_iload rfl rfl (xnm_no rfl) ?_
  obtain ⟨w1, hw2, h⟩ := xbd_some h
  refine e_cIS (hc := hw2) (rest := []) rfl rfl rfl rfl rfl rfl rfl rfl (xnm_no rfl) ?_
  refine e_if_eq (t := 115) rfl rfl (xnm_no rfl) (xnm_no rfl) h (fun h => ?_) (fun h => ?_)
  · refine e_iinc (y := 1) rfl rfl rfl (by decide) (xnm_no rfl) ?_
    refine e_goto (t := 51) rfl rfl rfl ?_
    exact xlfV h
  · refine e_aload_n rfl rfl rfl (xnm_no rfl) ?_
    refine e_iload rfl rfl (xnm_no rfl) ?_
    refine e_iload rfl rfl (xnm_no rfl) ?_
    obtain ⟨w3, hw4, h⟩ := xbd_some h
    refine e_cIS (hc := hw4) (rest := [.ref 110]) rfl rfl rfl rfl rfl rfl rfl rfl (xnm_no rfl) ?_
    refine e_aload_n rfl rfl rfl (xnm_no rfl) ?_
    refine e_getR (r := 111) rfl rfl rfl rfl rfl (xnm_no rfl) ?_
    refine e_iload_n rfl rfl (xnm_no rfl) ?_
    obtain ⟨g5, h⟩ := xgd_some h
    refine e_iald rfl g5 (xnm_no rfl) ?_
    refine e_iconst (x := 1) rfl (by decide) (xnm_no rfl) ?_
    refine e_iadd rfl (xnm_no rfl) ?_
    obtain ⟨w6, hw7, h⟩ := xbd_some h
    refine e_cVV (hc := hw7) (rest := []) rfl rfl rfl rfl rfl rfl rfl rfl (xnm_no rfl) ?_
    refine e_iinc (y := 1) rfl rfl rfl (by decide) (xnm_no rfl) ?_
    refine e_goto (t := 51) rfl rfl rfl ?_
    exact xlfV h
set_option maxRecDepth 4000 in
theorem fX6_spread_110_i (v1 : Nat) (v2 : Int32) (m : xmm) {z : xmm} (h : (bX6_spread_110_2 v1 v2 (0 : Int32) m) = some z) : fX6_spread_110 v1 v2 m = some z := by
  refine xstV ?_
  show xT 66 2 0 [(0, .ref 110), (1, .ref v1), (2, .int v2)] [] m (none, z)
  refine e_iconst (x := 0) rfl (by decide) (xnm_no rfl) ?_
  refine e_istore_n rfl rfl rfl ?_
  exact xlfV h
set_option maxRecDepth 4000 in
theorem bX6_spread_110_2_i (v1 : Nat) (v2 : Int32) (v3 : Int32) (m : xmm) {z : xmm} (h : (if (64 : Int32) ≤ v3 then xlt (xwi m 110 2 (0 : Int32)) fun (m1 : xmm) => (fX6_reach_110 v2 (0 : Int32) m1).bind fun (w2 : xmm) => bX6_spread_110_34 v1 (0 : Int32) w2 else xgd (xinb 64 v3) (xlt (xwi m 111 (v3).toNatClampNeg (-1 : Int32)) fun (m5 : xmm) => bX6_spread_110_2 v1 v2 (v3 + (1 : Int32)) m5)) = some z) : bX6_spread_110_2 v1 v2 v3 m = some z := by
  refine xstV ?_
  show xT 66 2 2 [(0, .ref 110), (1, .ref v1), (2, .int v2), (3, .int v3)] [] m (none, z)
  refine e_iload_n rfl rfl (xnm_no rfl) ?_
  refine e_bipush (x := 64) rfl (by decide) (xnm_no rfl) ?_
  refine e_icmp_ge (t := 21) rfl rfl (xnm_no rfl) (xnm_no rfl) h (fun h => ?_) (fun h => ?_)
  · refine e_aload_n rfl rfl rfl (xnm_no rfl) ?_
    refine e_iconst (x := 0) rfl (by decide) (xnm_no rfl) ?_
    refine e_putI rfl rfl rfl rfl (xnm_no rfl) ?_
    replace h := xlt_b h
    refine e_aload_n rfl rfl rfl (xnm_no rfl) ?_
    refine e_iload_n rfl rfl (xnm_no rfl) ?_
    refine e_iconst (x := 0) rfl (by decide) (xnm_no rfl) ?_
    obtain ⟨w2, hw3, h⟩ := xbd_some h
    refine e_cVV (hc := hw3) (rest := []) rfl rfl rfl rfl rfl rfl rfl rfl (xnm_no rfl) ?_
    refine e_iconst (x := 0) rfl (by decide) (xnm_no rfl) ?_
    refine e_istore_n rfl rfl rfl ?_
    exact xlfV h
  · refine e_aload_n rfl rfl rfl (xnm_no rfl) ?_
    refine e_getR (r := 111) rfl rfl rfl rfl rfl (xnm_no rfl) ?_
    refine e_iload_n rfl rfl (xnm_no rfl) ?_
    refine e_iconst (x := -1) rfl (by decide) (xnm_no rfl) ?_
    obtain ⟨g4, h⟩ := xgd_some h
    refine e_iast rfl g4 (xnm_no rfl) ?_
    replace h := xlt_b h
    refine e_iinc (y := 1) rfl rfl rfl (by decide) (xnm_no rfl) ?_
    refine e_goto (t := 2) rfl rfl rfl ?_
    exact xlfV h
set_option maxRecDepth 4000 in
theorem bX6_spread_110_34_i (v1 : Nat) (v3 : Int32) (m : xmm) {z : xmm} (h : (if (m.1 110 2) ≤ v3 then some m else if (64 : Int32) ≤ v3 then some m else xgd (!(Nat.beq v1 1999)) (xgd (xinb 64 v3) ((fX6_reachForced_110 v1 (m.1 112 (v3).toNatClampNeg) m).bind fun (w3 : xmm) => bX6_spread_110_34 v1 (v3 + (1 : Int32)) w3))) = some z) : bX6_spread_110_34 v1 v3 m = some z := by
  refine xstV ?_
  show xT 66 2 34 [(0, .ref 110), (1, .ref v1), (3, .int v3)] [] m (none, z)
  refine e_iload_n rfl rfl (xnm_no rfl) ?_
  refine e_aload_n rfl rfl rfl (xnm_no rfl) ?_
  refine e_getI rfl rfl rfl rfl (xnm_no rfl) ?_
  refine e_icmp_ge (t := 65) rfl rfl (xnm_no rfl) (xnm_no rfl) h (fun h => ?_) (fun h => ?_)
  · cases h
    exact e_retV rfl rfl
  · refine e_iload_n rfl rfl (xnm_no rfl) ?_
    refine e_bipush (x := 64) rfl (by decide) (xnm_no rfl) ?_
    refine e_icmp_ge (t := 65) rfl rfl (xnm_no rfl) (xnm_no rfl) h (fun h => ?_) (fun h => ?_)
    · cases h
      exact e_retV rfl rfl
    · refine e_aload_n rfl rfl rfl (xnm_no rfl) ?_
      obtain ⟨g1, h⟩ := xgd_some h
      refine e_aload_n rfl rfl (xnb g1) (xnm_no rfl) ?_
      refine e_aload_n rfl rfl rfl (xnm_no rfl) ?_
      refine e_getR (r := 112) rfl rfl rfl rfl rfl (xnm_no rfl) ?_
      refine e_iload_n rfl rfl (xnm_no rfl) ?_
      obtain ⟨g2, h⟩ := xgd_some h
      refine e_iald rfl g2 (xnm_no rfl) ?_
      obtain ⟨w3, hw4, h⟩ := xbd_some h
      refine e_cVV (hc := hw4) (rest := []) rfl rfl rfl rfl rfl rfl rfl rfl (xnm_no rfl) ?_
      refine e_iinc (y := 1) rfl rfl rfl (by decide) (xnm_no rfl) ?_
      refine e_goto (t := 34) rfl rfl rfl ?_
      exact xlfV h
set_option maxRecDepth 4000 in
theorem fX0_takeClass_109_i (v1 : Int32) (m : xmm) {z : xmm} (h : ((fX6_spread_110 113 v1 m).bind fun (w1 : xmm) => bX0_takeClass_109_14 (0 : Int32) w1) = some z) : fX0_takeClass_109 v1 m = some z := by
  refine xstV ?_
  show xT 2 3 0 [(0, .ref 109), (1, .int v1)] [] m (none, z)
  refine e_aload_n rfl rfl rfl (xnm_no rfl) ?_
  refine e_getR (r := 110) rfl rfl rfl rfl rfl (xnm_no rfl) ?_
  refine e_aload_n rfl rfl rfl (xnm_no rfl) ?_
  refine e_getR (r := 113) rfl rfl rfl rfl rfl (xnm_no rfl) ?_
  refine e_iload_n rfl rfl (xnm_no rfl) ?_
  obtain ⟨w1, hw2, h⟩ := xbd_some h
  refine e_cVV (hc := hw2) (rest := []) rfl rfl rfl rfl rfl rfl rfl rfl (xnm_no rfl) ?_
  refine e_iconst (x := 0) rfl (by decide) (xnm_no rfl) ?_
  refine e_istore_n rfl rfl rfl ?_
  exact xlfV h
set_option maxRecDepth 4000 in
theorem bX0_takeClass_109_14_i (v2 : Int32) (m : xmm) {z : xmm} (h : (if (m.1 110 2) ≤ v2 then xlt (xwi m 109 4 ((m.1 109 4) + (1 : Int32))) fun (m1 : xmm) => some m1 else xgd (xinb 64 v2) (xlt ((m.1 112 (v2).toNatClampNeg) - (m.1 112 (v2).toNatClampNeg) / (8 : Int32) * (8 : Int32)) fun (x3 : Int32) => xgd (xinb 8 ((m.1 112 (v2).toNatClampNeg) / (8 : Int32))) (xlt (xwi m 114 (((m.1 112 (v2).toNatClampNeg) / (8 : Int32))).toNatClampNeg ((m.1 114 (((m.1 112 (v2).toNatClampNeg) / (8 : Int32))).toNatClampNeg) ||| ((1 : Int32) <<< (x3 &&& 31)))) fun (m5 : xmm) => xgd (xinb 64 (m.1 112 (v2).toNatClampNeg)) (xlt (xwi m5 115 ((m.1 112 (v2).toNatClampNeg)).toNatClampNeg (m5.1 109 4)) fun (m7 : xmm) => (fX11_against (m.1 112 (v2).toNatClampNeg) m7).bind fun (w8 : Int32 × xmm) => xgd (xinb 64 w8.1) (xlt (xwi w8.2 115 (w8.1).toNatClampNeg (w8.2.1 109 4)) fun (m11 : xmm) => xlt (xwi m11 113 (((m.1 112 (v2).toNatClampNeg) / (8 : Int32))).toNatClampNeg ((m11.1 113 (((m.1 112 (v2).toNatClampNeg) / (8 : Int32))).toNatClampNeg) &&& (((1 : Int32) <<< (x3 &&& 31)) ^^^ (-1 : Int32)))) fun (m12 : xmm) => xgd (xinb 8 x3) (xlt (xwi m12 113 (x3).toNatClampNeg ((m12.1 113 (x3).toNatClampNeg) &&& (((1 : Int32) <<< (((m.1 112 (v2).toNatClampNeg) / (8 : Int32)) &&& 31)) ^^^ (-1 : Int32)))) fun (m14 : xmm) => bX0_takeClass_109_14 (v2 + (1 : Int32)) m14)))))) = some z) : bX0_takeClass_109_14 v2 m = some z := by
  refine xstV ?_
  show xT 2 3 14 [(0, .ref 109), (2, .int v2)] [] m (none, z)
  refine e_iload_n rfl rfl (xnm_no rfl) ?_
  refine e_aload_n rfl rfl rfl (xnm_no rfl) ?_
  refine e_getR (r := 110) rfl rfl rfl rfl rfl (xnm_no rfl) ?_
  refine e_getI rfl rfl rfl rfl (xnm_no rfl) ?_
  refine e_icmp_ge (t := 122) rfl rfl (xnm_no rfl) (xnm_no rfl) h (fun h => ?_) (fun h => ?_)
  · refine e_aload_n rfl rfl rfl (xnm_no rfl) ?_
    refine e_dup rfl rfl (xnm_no rfl) ?_
    refine e_getI rfl rfl rfl rfl (xnm_no rfl) ?_
    refine e_iconst (x := 1) rfl (by decide) (xnm_no rfl) ?_
    refine e_iadd rfl (xnm_no rfl) ?_
    refine e_putI rfl rfl rfl rfl (xnm_no rfl) ?_
    replace h := xlt_b h
    cases h
    exact e_retV rfl rfl
  · refine e_aload_n rfl rfl rfl (xnm_no rfl) ?_
    refine e_getR (r := 110) rfl rfl rfl rfl rfl (xnm_no rfl) ?_
    refine e_getR (r := 112) rfl rfl rfl rfl rfl (xnm_no rfl) ?_
    refine e_iload_n rfl rfl (xnm_no rfl) ?_
    obtain ⟨g2, h⟩ := xgd_some h
    refine e_iald rfl g2 (xnm_no rfl) ?_
    refine e_istore_n rfl rfl (xnm_no rfl) ?_
    refine e_iload_n rfl rfl (xnm_no rfl) ?_
    refine e_bipush (x := 8) rfl (by decide) (xnm_no rfl) ?_
    refine e_idiv rfl (by decide) (xnm_no rfl) ?_
    refine e_istore rfl rfl (xnm_no rfl) ?_
    refine e_iload_n rfl rfl (xnm_no rfl) ?_
    refine e_bipush (x := 8) rfl (by decide) (xnm_no rfl) ?_
    refine e_irem rfl (by decide) (xnm_no rfl) ?_
    replace h := xlt_b h
    refine e_istore rfl rfl (xnm_no rfl) ?_
    refine e_aload_n rfl rfl rfl (xnm_no rfl) ?_
    refine e_getR (r := 114) rfl rfl rfl rfl rfl (xnm_no rfl) ?_
    refine e_iload rfl rfl (xnm_no rfl) ?_
    refine e_dup2 rfl rfl rfl (xnm_no rfl) ?_
    obtain ⟨g4, h⟩ := xgd_some h
    refine e_iald rfl g4 (xnm_no rfl) ?_
    refine e_iconst (x := 1) rfl (by decide) (xnm_no rfl) ?_
    refine e_iload rfl rfl (xnm_no rfl) ?_
    refine e_ishl rfl (xnm_no rfl) ?_
    refine e_ior rfl (xnm_no rfl) ?_
    refine e_iast rfl g4 (xnm_no rfl) ?_
    replace h := xlt_b h
    refine e_aload_n rfl rfl rfl (xnm_no rfl) ?_
    refine e_getR (r := 115) rfl rfl rfl rfl rfl (xnm_no rfl) ?_
    refine e_iload_n rfl rfl (xnm_no rfl) ?_
    refine e_aload_n rfl rfl rfl (xnm_no rfl) ?_
    refine e_getI rfl rfl rfl rfl (xnm_no rfl) ?_
    obtain ⟨g6, h⟩ := xgd_some h
    refine e_iast rfl g6 (xnm_no rfl) ?_
    replace h := xlt_b h
    refine e_aload_n rfl rfl rfl (xnm_no rfl) ?_
    refine e_getR (r := 115) rfl rfl rfl rfl rfl (xnm_no rfl) ?_
    refine e_iload_n rfl rfl (xnm_no rfl) ?_
    obtain ⟨w8, hw9, h⟩ := xbd_some h
    refine e_cIS (hc := hw9) (rest := [.ref 115]) rfl rfl rfl rfl rfl rfl rfl rfl (xnm_no rfl) ?_
    refine e_aload_n rfl rfl rfl (xnm_no rfl) ?_
    refine e_getI rfl rfl rfl rfl (xnm_no rfl) ?_
    obtain ⟨g10, h⟩ := xgd_some h
    refine e_iast rfl g10 (xnm_no rfl) ?_
    replace h := xlt_b h
    refine e_aload_n rfl rfl rfl (xnm_no rfl) ?_
    refine e_getR (r := 113) rfl rfl rfl rfl rfl (xnm_no rfl) ?_
    refine e_iload rfl rfl (xnm_no rfl) ?_
    refine e_dup2 rfl rfl rfl (xnm_no rfl) ?_
    refine e_iald rfl g4 (xnm_no rfl) ?_
    refine e_iconst (x := 1) rfl (by decide) (xnm_no rfl) ?_
    refine e_iload rfl rfl (xnm_no rfl) ?_
    refine e_ishl rfl (xnm_no rfl) ?_
    refine e_iconst (x := -1) rfl (by decide) (xnm_no rfl) ?_
    refine e_ixor rfl (xnm_no rfl) ?_
    refine e_iand rfl (xnm_no rfl) ?_
    refine e_iast rfl g4 (xnm_no rfl) ?_
    replace h := xlt_b h
    refine e_aload_n rfl rfl rfl (xnm_no rfl) ?_
    refine e_getR (r := 113) rfl rfl rfl rfl rfl (xnm_no rfl) ?_
    refine e_iload rfl rfl (xnm_no rfl) ?_
    refine e_dup2 rfl rfl rfl (xnm_no rfl) ?_
    obtain ⟨g13, h⟩ := xgd_some h
    refine e_iald rfl g13 (xnm_no rfl) ?_
    refine e_iconst (x := 1) rfl (by decide) (xnm_no rfl) ?_
    refine e_iload rfl rfl (xnm_no rfl) ?_
    refine e_ishl rfl (xnm_no rfl) ?_
    refine e_iconst (x := -1) rfl (by decide) (xnm_no rfl) ?_
    refine e_ixor rfl (xnm_no rfl) ?_
    refine e_iand rfl (xnm_no rfl) ?_
    refine e_iast rfl g13 (xnm_no rfl) ?_
    replace h := xlt_b h
    refine e_iinc (y := 1) rfl rfl rfl (by decide) (xnm_no rfl) ?_
    refine e_goto (t := 14) rfl rfl rfl ?_
    exact xlfV h
set_option maxRecDepth 4000 in
theorem fX0_solve_109_i (v1 : Nat) (v2 : Int32) (m : xmm) {z : xmm} (h : (bX0_solve_109_2 v1 v2 (0 : Int32) m) = some z) : fX0_solve_109 v1 v2 m = some z := by
  refine xstV ?_
  show xT 1 4 0 [(0, .ref 109), (1, .ref v1), (2, .int v2)] [] m (none, z)
  refine e_iconst (x := 0) rfl (by decide) (xnm_no rfl) ?_
  refine e_istore_n rfl rfl rfl ?_
  exact xlfV h
set_option maxRecDepth 4000 in
theorem bX0_solve_109_2_i (v1 : Nat) (v2 : Int32) (v3 : Int32) (m : xmm) {z : xmm} (h : (if (8 : Int32) ≤ v3 then xlt (xwi m 109 4 (0 : Int32)) fun (m1 : xmm) => bX0_solve_109_37 v2 (0 : Int32) m1 else xgd (!(Nat.beq v1 1999)) (xgd (xia 1 v1 v3) (xgd (xinb 8 v3) (xlt (xwi m 113 (v3).toNatClampNeg (m.1 v1 (v3).toNatClampNeg)) fun (m5 : xmm) => xlt (xwi m5 114 (v3).toNatClampNeg (0 : Int32)) fun (m6 : xmm) => bX0_solve_109_2 v1 v2 (v3 + (1 : Int32)) m6)))) = some z) : bX0_solve_109_2 v1 v2 v3 m = some z := by
  refine xstV ?_
  show xT 1 4 2 [(0, .ref 109), (1, .ref v1), (2, .int v2), (3, .int v3)] [] m (none, z)
  refine e_iload_n rfl rfl (xnm_no rfl) ?_
  refine e_bipush (x := 8) rfl (by decide) (xnm_no rfl) ?_
  refine e_icmp_ge (t := 30) rfl rfl (xnm_no rfl) (xnm_no rfl) h (fun h => ?_) (fun h => ?_)
  · refine e_aload_n rfl rfl rfl (xnm_no rfl) ?_
    refine e_iconst (x := 0) rfl (by decide) (xnm_no rfl) ?_
    refine e_putI rfl rfl rfl rfl (xnm_no rfl) ?_
    replace h := xlt_b h
    refine e_iconst (x := 0) rfl (by decide) (xnm_no rfl) ?_
    refine e_istore_n rfl rfl rfl ?_
    exact xlfV h
  · refine e_aload_n rfl rfl rfl (xnm_no rfl) ?_
    refine e_getR (r := 113) rfl rfl rfl rfl rfl (xnm_no rfl) ?_
    refine e_iload_n rfl rfl (xnm_no rfl) ?_
    obtain ⟨g2, h⟩ := xgd_some h
    refine e_aload_n rfl rfl (xnb g2) (xnm_no rfl) ?_
    refine e_iload_n rfl rfl (xnm_no rfl) ?_
    obtain ⟨g3, h⟩ := xgd_some h
    refine e_iald rfl g3 (xnm_no rfl) ?_
    obtain ⟨g4, h⟩ := xgd_some h
    refine e_iast rfl g4 (xnm_no rfl) ?_
    replace h := xlt_b h
    refine e_aload_n rfl rfl rfl (xnm_no rfl) ?_
    refine e_getR (r := 114) rfl rfl rfl rfl rfl (xnm_no rfl) ?_
    refine e_iload_n rfl rfl (xnm_no rfl) ?_
    refine e_iconst (x := 0) rfl (by decide) (xnm_no rfl) ?_
    refine e_iast rfl g4 (xnm_no rfl) ?_
    replace h := xlt_b h
    refine e_iinc (y := 1) rfl rfl rfl (by decide) (xnm_no rfl) ?_
    refine e_goto (t := 2) rfl rfl rfl ?_
    exact xlfV h
set_option maxRecDepth 4000 in
theorem bX0_solve_109_37_i (v2 : Int32) (v3 : Int32) (m : xmm) {z : xmm} (h : (if (64 : Int32) ≤ v3 then some m else (fX11_isArrow 113 v3 m).bind fun (w1 : Int32 × xmm) => if w1.1 = 0 then bX0_solve_109_37 v2 (v3 + (1 : Int32)) w1.2 else if (w1.2.1 109 4) = 0 then if v2 = 0 then bX0_solve_109_70 v2 v3 (0 : Int32) w1.2 else bX0_solve_109_70 v2 v3 (1 : Int32) w1.2 else bX0_solve_109_70 v2 v3 (0 : Int32) w1.2) = some z) : bX0_solve_109_37 v2 v3 m = some z := by
  refine xstV ?_
  show xT 1 4 37 [(0, .ref 109), (2, .int v2), (3, .int v3)] [] m (none, z)
  refine e_iload_n rfl rfl (xnm_no rfl) ?_
  refine e_bipush (x := 64) rfl (by decide) (xnm_no rfl) ?_
  refine e_icmp_ge (t := 95) rfl rfl (xnm_no rfl) (xnm_no rfl) h (fun h => ?_) (fun h => ?_)
  · cases h
    exact e_retV rfl rfl
  · refine e_aload_n rfl rfl rfl (xnm_no rfl) ?_
    refine e_getR (r := 113) rfl rfl rfl rfl rfl (xnm_no rfl) ?_
    refine e_iload_n rfl rfl (xnm_no rfl) ?_
    obtain ⟨w1, hw2, h⟩ := xbd_some h
    refine e_cIS (hc := hw2) (rest := []) rfl rfl rfl rfl rfl rfl rfl rfl (xnm_no rfl) ?_
    refine e_if_eq (t := 89) rfl rfl (xnm_no rfl) (xnm_no rfl) h (fun h => ?_) (fun h => ?_)
    · refine e_iinc (y := 1) rfl rfl rfl (by decide) (xnm_no rfl) ?_
      refine e_goto (t := 37) rfl rfl rfl ?_
      exact xlfV h
    · refine e_aload_n rfl rfl rfl (xnm_no rfl) ?_
      refine e_getI rfl rfl rfl rfl (xnm_no rfl) ?_
      refine e_if_ne (t := 69) rfl rfl (xnm_no rfl) (xnm_no rfl) h (fun h => ?_) (fun h => ?_)
      · refine e_iconst (x := 0) rfl (by decide) rfl ?_
        exact xlfV h
      · refine e_iload_n rfl rfl (xnm_no rfl) ?_
        refine e_if_eq (t := 69) rfl rfl (xnm_no rfl) (xnm_no rfl) h (fun h => ?_) (fun h => ?_)
        · refine e_iconst (x := 0) rfl (by decide) rfl ?_
          exact xlfV h
        · refine e_iconst (x := 1) rfl (by decide) (xnm_no rfl) ?_
          refine e_goto (t := 70) rfl rfl rfl ?_
          exact xlfV h
set_option maxRecDepth 4000 in
theorem bX0_solve_109_70_i (v2 : Int32) (v3 : Int32) (s0 : Int32) (m : xmm) {z : xmm} (h : (if s0 = 0 then (fX0_takeClass_109 v3 m).bind fun (w1 : xmm) => bX0_solve_109_37 v2 (v3 + (1 : Int32)) w1 else (fX11_against v3 m).bind fun (w3 : Int32 × xmm) => (fX0_takeClass_109 w3.1 w3.2).bind fun (w5 : xmm) => bX0_solve_109_37 v2 (v3 + (1 : Int32)) w5) = some z) : bX0_solve_109_70 v2 v3 s0 m = some z := by
  refine xstV ?_
  show xT 1 4 70 [(0, .ref 109), (2, .int v2), (3, .int v3)] [.int s0] m (none, z)
  refine e_istore rfl rfl (xnm_no rfl) ?_
  refine e_aload_n rfl rfl rfl (xnm_no rfl) ?_
  refine e_iload rfl rfl (xnm_no rfl) ?_
  refine e_if_eq (t := 85) rfl rfl (xnm_no rfl) (xnm_no rfl) h (fun h => ?_) (fun h => ?_)
  · refine e_iload_n rfl rfl (xnm_no rfl) ?_
    obtain ⟨w1, hw2, h⟩ := xbd_some h
    refine e_cVV (hc := hw2) (rest := []) rfl rfl rfl rfl rfl rfl rfl rfl (xnm_no rfl) ?_
    refine e_iinc (y := 1) rfl rfl rfl (by decide) (xnm_no rfl) ?_
    refine e_goto (t := 37) rfl rfl rfl ?_
    exact xlfV h
  · refine e_iload_n rfl rfl (xnm_no rfl) ?_
    obtain ⟨w3, hw4, h⟩ := xbd_some h
    refine e_cIS (hc := hw4) (rest := [.ref 109]) rfl rfl rfl rfl rfl rfl rfl rfl (xnm_no rfl) ?_
    refine e_goto (t := 86) rfl rfl (xnm_no rfl) ?_
    obtain ⟨w5, hw6, h⟩ := xbd_some h
    refine e_cVV (hc := hw6) (rest := []) rfl rfl rfl rfl rfl rfl rfl rfl (xnm_no rfl) ?_
    refine e_iinc (y := 1) rfl rfl rfl (by decide) (xnm_no rfl) ?_
    refine e_goto (t := 37) rfl rfl rfl ?_
    exact xlfV h
set_option maxRecDepth 4000 in
theorem fX5_isNext_123_i (v1 : Int32) (v2 : Int32) (m : xmm) {z : Int32 × xmm} (h : ((fX11_contains v1 v2 m).bind fun (w1 : Int32 × xmm) => if w1.1 = 0 then xgd (xinb 8 v2) (if ((w1.2.1 125 (v2).toNatClampNeg) &&& (v1 ^^^ (-1 : Int32))) = 0 then some ((1 : Int32), w1.2) else some ((0 : Int32), w1.2)) else some ((0 : Int32), w1.2)) = some z) : fX5_isNext_123 v1 v2 m = some z := by
  refine xstI ?_
  show xT 46 1 0 [(0, .ref 123), (1, .int v1), (2, .int v2)] [] m (some (.int z.1), z.2)
  refine e_iload_n rfl rfl (xnm_no rfl) ?_
  refine e_iload_n rfl rfl (xnm_no rfl) ?_
  obtain ⟨w1, hw2, h⟩ := xbd_some h
  refine e_cIS (hc := hw2) (rest := []) rfl rfl rfl rfl rfl rfl rfl rfl (xnm_no rfl) ?_
  refine e_if_ne (t := 25) rfl rfl (xnm_no rfl) (xnm_no rfl) h (fun h => ?_) (fun h => ?_)
  · refine e_iconst (x := 0) rfl (by decide) (xnm_no rfl) ?_
    cases h
    exact e_retI rfl (by decide)
  · refine e_aload_n rfl rfl rfl (xnm_no rfl) ?_
    refine e_getR (r := 125) rfl rfl rfl rfl rfl (xnm_no rfl) ?_
    refine e_iload_n rfl rfl (xnm_no rfl) ?_
    obtain ⟨g3, h⟩ := xgd_some h
    refine e_iald rfl g3 (xnm_no rfl) ?_
    refine e_iload_n rfl rfl (xnm_no rfl) ?_
    refine e_iconst (x := -1) rfl (by decide) (xnm_no rfl) ?_
    refine e_ixor rfl (xnm_no rfl) ?_
    refine e_iand rfl (xnm_no rfl) ?_
    refine e_if_ne (t := 25) rfl rfl (xnm_no rfl) (xnm_no rfl) h (fun h => ?_) (fun h => ?_)
    · refine e_iconst (x := 0) rfl (by decide) (xnm_no rfl) ?_
      cases h
      exact e_retI rfl (by decide)
    · refine e_iconst (x := 1) rfl (by decide) (xnm_no rfl) ?_
      refine e_goto (t := 26) rfl rfl (xnm_no rfl) ?_
      cases h
      exact e_retI rfl (by decide)
set_option maxRecDepth 4000 in
theorem fX5_countWaysOn_123_i (m : xmm) {z : xmm} (h : (xgd (xinb 256 (((1 : Int32) <<< ((m.1 123 6) &&& 31)) - (1 : Int32))) (xlt (xwi m 127 ((((1 : Int32) <<< ((m.1 123 6) &&& 31)) - (1 : Int32))).toNatClampNeg (1 : Int32)) fun (m2 : xmm) => xlt ((((1 : Int32) <<< ((m.1 123 6) &&& 31)) - (1 : Int32)) - (1 : Int32)) fun (x3 : Int32) => bX5_countWaysOn_123_20 x3 m2)) = some z) : fX5_countWaysOn_123 m = some z := by
  refine xstV ?_
  show xT 45 2 0 [(0, .ref 123)] [] m (none, z)
  refine e_iconst (x := 1) rfl (by decide) (xnm_no rfl) ?_
  refine e_aload_n rfl rfl rfl (xnm_no rfl) ?_
  refine e_getI rfl rfl rfl rfl (xnm_no rfl) ?_
  refine e_ishl rfl (xnm_no rfl) ?_
  refine e_iconst (x := 1) rfl (by decide) (xnm_no rfl) ?_
  refine e_isub rfl (xnm_no rfl) ?_
  refine e_istore_n rfl rfl (xnm_no rfl) ?_
  refine e_aload_n rfl rfl rfl (xnm_no rfl) ?_
  refine e_getR (r := 127) rfl rfl rfl rfl rfl (xnm_no rfl) ?_
  refine e_iload_n rfl rfl (xnm_no rfl) ?_
  refine e_iconst (x := 1) rfl (by decide) (xnm_no rfl) ?_
  obtain ⟨g1, h⟩ := xgd_some h
  refine e_iast rfl g1 (xnm_no rfl) ?_
  replace h := xlt_b h
  refine e_iload_n rfl rfl (xnm_no rfl) ?_
  refine e_iconst (x := 1) rfl (by decide) (xnm_no rfl) ?_
  refine e_isub rfl (xnm_no rfl) ?_
  replace h := xlt_b h
  refine e_istore_n rfl rfl rfl ?_
  exact xlfV h
set_option maxRecDepth 4000 in
theorem bX5_countWaysOn_123_20_i (v2 : Int32) (m : xmm) {z : xmm} (h : (if v2 < 0 then some m else xgd (xinb 256 v2) (xlt (xwi m 127 (v2).toNatClampNeg (0 : Int32)) fun (m2 : xmm) => bX5_countWaysOn_123_33 v2 (0 : Int32) m2)) = some z) : bX5_countWaysOn_123_20 v2 m = some z := by
  refine xstV ?_
  show xT 45 2 20 [(0, .ref 123), (2, .int v2)] [] m (none, z)
  refine e_iload_n rfl rfl (xnm_no rfl) ?_
  refine e_if_lt (t := 81) rfl rfl (xnm_no rfl) (xnm_no rfl) h (fun h => ?_) (fun h => ?_)
  · cases h
    exact e_retV rfl rfl
  · refine e_aload_n rfl rfl rfl (xnm_no rfl) ?_
    refine e_getR (r := 127) rfl rfl rfl rfl rfl (xnm_no rfl) ?_
    refine e_iload_n rfl rfl (xnm_no rfl) ?_
    refine e_iconst (x := 0) rfl (by decide) (xnm_no rfl) ?_
    obtain ⟨g1, h⟩ := xgd_some h
    refine e_iast rfl g1 (xnm_no rfl) ?_
    replace h := xlt_b h
    refine e_iconst (x := 0) rfl (by decide) (xnm_no rfl) ?_
    refine e_istore_n rfl rfl rfl ?_
    exact xlfV h
set_option maxRecDepth 4000 in
theorem bX5_countWaysOn_123_33_i (v2 : Int32) (v3 : Int32) (m : xmm) {z : xmm} (h : (if (m.1 123 6) ≤ v3 then bX5_countWaysOn_123_20 (v2 + (-1 : Int32)) m else (fX5_isNext_123 v2 v3 m).bind fun (w1 : Int32 × xmm) => if w1.1 = 0 then bX5_countWaysOn_123_33 v2 (v3 + (1 : Int32)) w1.2 else xgd (xinb 256 v2) (xgd (xinb 256 (v2 ||| ((1 : Int32) <<< (v3 &&& 31)))) (xlt (xwi w1.2 127 (v2).toNatClampNeg ((w1.2.1 127 (v2).toNatClampNeg) + (w1.2.1 127 ((v2 ||| ((1 : Int32) <<< (v3 &&& 31)))).toNatClampNeg))) fun (m5 : xmm) => bX5_countWaysOn_123_33 v2 (v3 + (1 : Int32)) m5))) = some z) : bX5_countWaysOn_123_33 v2 v3 m = some z := by
  refine xstV ?_
  show xT 45 2 33 [(0, .ref 123), (2, .int v2), (3, .int v3)] [] m (none, z)
  refine e_iload_n rfl rfl (xnm_no rfl) ?_
  refine e_aload_n rfl rfl rfl (xnm_no rfl) ?_
  refine e_getI rfl rfl rfl rfl (xnm_no rfl) ?_
  refine e_icmp_ge (t := 75) rfl rfl (xnm_no rfl) (xnm_no rfl) h (fun h => ?_) (fun h => ?_)
  · refine e_iinc (y := -1) rfl rfl rfl (by decide) (xnm_no rfl) ?_
    refine e_goto (t := 20) rfl rfl rfl ?_
    exact xlfV h
  · refine e_aload_n rfl rfl rfl (xnm_no rfl) ?_
    refine e_iload_n rfl rfl (xnm_no rfl) ?_
    refine e_iload_n rfl rfl (xnm_no rfl) ?_
    obtain ⟨w1, hw2, h⟩ := xbd_some h
    refine e_cIV (hc := hw2) (rest := []) rfl rfl rfl rfl rfl rfl rfl rfl (xnm_no rfl) ?_
    refine e_if_eq (t := 69) rfl rfl (xnm_no rfl) (xnm_no rfl) h (fun h => ?_) (fun h => ?_)
    · refine e_iinc (y := 1) rfl rfl rfl (by decide) (xnm_no rfl) ?_
      refine e_goto (t := 33) rfl rfl rfl ?_
      exact xlfV h
    · refine e_aload_n rfl rfl rfl (xnm_no rfl) ?_
      refine e_getR (r := 127) rfl rfl rfl rfl rfl (xnm_no rfl) ?_
      refine e_iload_n rfl rfl (xnm_no rfl) ?_
      refine e_dup2 rfl rfl rfl (xnm_no rfl) ?_
      obtain ⟨g3, h⟩ := xgd_some h
      refine e_iald rfl g3 (xnm_no rfl) ?_
      refine e_aload_n rfl rfl rfl (xnm_no rfl) ?_
      refine e_getR (r := 127) rfl rfl rfl rfl rfl (xnm_no rfl) ?_
      refine e_iload_n rfl rfl (xnm_no rfl) ?_
      refine e_iconst (x := 1) rfl (by decide) (xnm_no rfl) ?_
      refine e_iload_n rfl rfl (xnm_no rfl) ?_
      refine e_ishl rfl (xnm_no rfl) ?_
      refine e_ior rfl (xnm_no rfl) ?_
      obtain ⟨g4, h⟩ := xgd_some h
      refine e_iald rfl g4 (xnm_no rfl) ?_
      refine e_iadd rfl (xnm_no rfl) ?_
      refine e_iast rfl g3 (xnm_no rfl) ?_
      replace h := xlt_b h
      refine e_iinc (y := 1) rfl rfl rfl (by decide) (xnm_no rfl) ?_
      refine e_goto (t := 33) rfl rfl rfl ?_
      exact xlfV h
set_option maxRecDepth 4000 in
theorem fX5_raiseLevels_123_i (m : xmm) {z : xmm} (h : (bX5_raiseLevels_123_2 (0 : Int32) m) = some z) : fX5_raiseLevels_123 m = some z := by
  refine xstV ?_
  show xT 44 2 0 [(0, .ref 123)] [] m (none, z)
  refine e_iconst (x := 0) rfl (by decide) (xnm_no rfl) ?_
  refine e_istore_n rfl rfl rfl ?_
  exact xlfV h
set_option maxRecDepth 4000 in
theorem bX5_raiseLevels_123_2_i (v1 : Int32) (m : xmm) {z : xmm} (h : (if (64 : Int32) ≤ v1 then some m else (fX11_isArrow 124 v1 m).bind fun (w1 : Int32 × xmm) => if w1.1 = 0 then bX5_raiseLevels_123_2 (v1 + (1 : Int32)) w1.2 else xgd (xinb 8 (v1 - v1 / (8 : Int32) * (8 : Int32))) (xgd (xinb 8 (v1 / (8 : Int32))) (xlt (w1.2.1 126 ((v1 - v1 / (8 : Int32) * (8 : Int32))).toNatClampNeg) fun (x5 : Int32) => xlt ((w1.2.1 126 ((v1 / (8 : Int32))).toNatClampNeg) + (1 : Int32)) fun (x6 : Int32) => xlt (xwi w1.2 126 ((v1 - v1 / (8 : Int32) * (8 : Int32))).toNatClampNeg (if x5 < x6 then x6 else x5)) fun (m7 : xmm) => bX5_raiseLevels_123_2 (v1 + (1 : Int32)) m7))) = some z) : bX5_raiseLevels_123_2 v1 m = some z := by
  refine xstV ?_
  show xT 44 2 2 [(0, .ref 123), (1, .int v1)] [] m (none, z)
  refine e_iload_n rfl rfl (xnm_no rfl) ?_
  refine e_bipush (x := 64) rfl (by decide) (xnm_no rfl) ?_
  refine e_icmp_ge (t := 56) rfl rfl (xnm_no rfl) (xnm_no rfl) h (fun h => ?_) (fun h => ?_)
  · cases h
    exact e_retV rfl rfl
  · refine e_aload_n rfl rfl rfl (xnm_no rfl) ?_
    refine e_getR (r := 124) rfl rfl rfl rfl rfl (xnm_no rfl) ?_
    refine e_iload_n rfl rfl (xnm_no rfl) ?_
    obtain ⟨w1, hw2, h⟩ := xbd_some h
    refine e_cIS (hc := hw2) (rest := []) rfl rfl rfl rfl rfl rfl rfl rfl (xnm_no rfl) ?_
    refine e_if_eq (t := 50) rfl rfl (xnm_no rfl) (xnm_no rfl) h (fun h => ?_) (fun h => ?_)
    · refine e_iinc (y := 1) rfl rfl rfl (by decide) (xnm_no rfl) ?_
      refine e_goto (t := 2) rfl rfl rfl ?_
      exact xlfV h
    · refine e_iload_n rfl rfl (xnm_no rfl) ?_
      refine e_bipush (x := 8) rfl (by decide) (xnm_no rfl) ?_
      refine e_irem rfl (by decide) (xnm_no rfl) ?_
      refine e_istore_n rfl rfl (xnm_no rfl) ?_
      refine e_aload_n rfl rfl rfl (xnm_no rfl) ?_
      refine e_getR (r := 126) rfl rfl rfl rfl rfl (xnm_no rfl) ?_
      refine e_iload_n rfl rfl (xnm_no rfl) ?_
      refine e_aload_n rfl rfl rfl (xnm_no rfl) ?_
      refine e_getR (r := 126) rfl rfl rfl rfl rfl (xnm_no rfl) ?_
      refine e_iload_n rfl rfl (xnm_no rfl) ?_
      obtain ⟨g3, h⟩ := xgd_some h
      refine e_iald rfl g3 (xnm_no rfl) ?_
      refine e_aload_n rfl rfl rfl (xnm_no rfl) ?_
      refine e_getR (r := 126) rfl rfl rfl rfl rfl (xnm_no rfl) ?_
      refine e_iload_n rfl rfl (xnm_no rfl) ?_
      refine e_bipush (x := 8) rfl (by decide) (xnm_no rfl) ?_
      refine e_idiv rfl (by decide) (xnm_no rfl) ?_
      obtain ⟨g4, h⟩ := xgd_some h
      refine e_iald rfl g4 (xnm_no rfl) ?_
      refine e_iconst (x := 1) rfl (by decide) (xnm_no rfl) ?_
      refine e_iadd rfl (xnm_no rfl) ?_
      replace h := xlt_b h
      replace h := xlt_b h
      refine e_max rfl rfl rfl (xnm_no rfl) ?_
      refine e_iast rfl g3 (xnm_no rfl) ?_
      replace h := xlt_b h
      refine e_iinc (y := 1) rfl rfl rfl (by decide) (xnm_no rfl) ?_
      refine e_goto (t := 2) rfl rfl rfl ?_
      exact xlfV h
