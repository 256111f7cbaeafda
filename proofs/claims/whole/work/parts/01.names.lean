-- ===== PART A: goes FIRST, ahead of the names: the tables' words, and 'selects' of the private methods out of them =====
/-- a private method of a class that the tables say can be made, by its rows of tables_1 -/
def lw_okq (q : MethodName × Nat) : Prop := (q.1.cls ≠ "java/lang/invoke/MethodHandle" ∧ q.1.cls ≠ "java/lang/invoke/VarHandle") ∧ Cond.instantiable q.1.cls q.2 ∈ tables_1 ∧ Cond.privateMethod q.1 ∈ tables_1 ∧ Cond.instanceMethod q.1 ∈ tables_1
theorem lw_p0 : lw_okq (⟨"ArrowOrders", "beforeChange", "()V"⟩, 15) := ⟨⟨by decide +kernel, by decide +kernel⟩, List.mem_of_getElem? (i := 21) (by decide +kernel), List.mem_of_getElem? (i := 504) (by decide +kernel), List.mem_of_getElem? (i := 505) (by decide +kernel)⟩
theorem lw_p1 : lw_okq (⟨"ArrowOrders", "study", "()V"⟩, 15) := ⟨⟨by decide +kernel, by decide +kernel⟩, List.mem_of_getElem? (i := 21) (by decide +kernel), List.mem_of_getElem? (i := 600) (by decide +kernel), List.mem_of_getElem? (i := 601) (by decide +kernel)⟩
theorem lw_p2 : lw_okq (⟨"ArrowOrders", "isCrossed", "()Z"⟩, 15) := ⟨⟨by decide +kernel, by decide +kernel⟩, List.mem_of_getElem? (i := 21) (by decide +kernel), List.mem_of_getElem? (i := 773) (by decide +kernel), List.mem_of_getElem? (i := 774) (by decide +kernel)⟩
theorem lw_p3 : lw_okq (⟨"ArrowOrders", "crossedPlace", "(IZ)I"⟩, 15) := ⟨⟨by decide +kernel, by decide +kernel⟩, List.mem_of_getElem? (i := 21) (by decide +kernel), List.mem_of_getElem? (i := 815) (by decide +kernel), List.mem_of_getElem? (i := 816) (by decide +kernel)⟩
theorem lw_p4 : lw_okq (⟨"ArrowOrders", "heldIn", "(I)LArrowOrders$Net;"⟩, 15) := ⟨⟨by decide +kernel, by decide +kernel⟩, List.mem_of_getElem? (i := 21) (by decide +kernel), List.mem_of_getElem? (i := 928) (by decide +kernel), List.mem_of_getElem? (i := 929) (by decide +kernel)⟩
theorem lw_p5 : lw_okq (⟨"ArrowOrdersModel", "lays", "(I)V"⟩, 57) := ⟨⟨by decide +kernel, by decide +kernel⟩, List.mem_of_getElem? (i := 973) (by decide +kernel), List.mem_of_getElem? (i := 1161) (by decide +kernel), List.mem_of_getElem? (i := 1162) (by decide +kernel)⟩
theorem lw_p6 : lw_okq (⟨"ArrowOrdersModel", "cutsText", "()V"⟩, 57) := ⟨⟨by decide +kernel, by decide +kernel⟩, List.mem_of_getElem? (i := 973) (by decide +kernel), List.mem_of_getElem? (i := 1173) (by decide +kernel), List.mem_of_getElem? (i := 1174) (by decide +kernel)⟩
theorem lw_p7 : lw_okq (⟨"ArrowOrdersModel", "byteAt", "(I)I"⟩, 57) := ⟨⟨by decide +kernel, by decide +kernel⟩, List.mem_of_getElem? (i := 973) (by decide +kernel), List.mem_of_getElem? (i := 1177) (by decide +kernel), List.mem_of_getElem? (i := 1178) (by decide +kernel)⟩
theorem lw_p8 : lw_okq (⟨"ArrowOrdersModel", "token", "(IIIJ)V"⟩, 57) := ⟨⟨by decide +kernel, by decide +kernel⟩, List.mem_of_getElem? (i := 973) (by decide +kernel), List.mem_of_getElem? (i := 1181) (by decide +kernel), List.mem_of_getElem? (i := 1182) (by decide +kernel)⟩
theorem lw_p9 : lw_okq (⟨"ArrowOrdersModel", "signAt", "(II)I"⟩, 57) := ⟨⟨by decide +kernel, by decide +kernel⟩, List.mem_of_getElem? (i := 973) (by decide +kernel), List.mem_of_getElem? (i := 1191) (by decide +kernel), List.mem_of_getElem? (i := 1192) (by decide +kernel)⟩
theorem lw_p10 : lw_okq (⟨"ArrowOrdersModel", "must", "(I)V"⟩, 57) := ⟨⟨by decide +kernel, by decide +kernel⟩, List.mem_of_getElem? (i := 973) (by decide +kernel), List.mem_of_getElem? (i := 1195) (by decide +kernel), List.mem_of_getElem? (i := 1196) (by decide +kernel)⟩
theorem lw_p11 : lw_okq (⟨"ArrowOrdersModel", "is", "(I)Z"⟩, 57) := ⟨⟨by decide +kernel, by decide +kernel⟩, List.mem_of_getElem? (i := 973) (by decide +kernel), List.mem_of_getElem? (i := 1199) (by decide +kernel), List.mem_of_getElem? (i := 1200) (by decide +kernel)⟩
theorem lw_p12 : lw_okq (⟨"ArrowOrdersModel", "passes", "()V"⟩, 57) := ⟨⟨by decide +kernel, by decide +kernel⟩, List.mem_of_getElem? (i := 973) (by decide +kernel), List.mem_of_getElem? (i := 1203) (by decide +kernel), List.mem_of_getElem? (i := 1204) (by decide +kernel)⟩
theorem lw_p13 : lw_okq (⟨"ArrowOrdersModel", "fail", "(I)V"⟩, 57) := ⟨⟨by decide +kernel, by decide +kernel⟩, List.mem_of_getElem? (i := 973) (by decide +kernel), List.mem_of_getElem? (i := 1207) (by decide +kernel), List.mem_of_getElem? (i := 1208) (by decide +kernel)⟩
theorem lw_p14 : lw_okq (⟨"ArrowOrdersModel", "tellLine", "()V"⟩, 57) := ⟨⟨by decide +kernel, by decide +kernel⟩, List.mem_of_getElem? (i := 973) (by decide +kernel), List.mem_of_getElem? (i := 1211) (by decide +kernel), List.mem_of_getElem? (i := 1212) (by decide +kernel)⟩
theorem lw_p15 : lw_okq (⟨"ArrowOrdersModel", "means", "()V"⟩, 57) := ⟨⟨by decide +kernel, by decide +kernel⟩, List.mem_of_getElem? (i := 973) (by decide +kernel), List.mem_of_getElem? (i := 1215) (by decide +kernel), List.mem_of_getElem? (i := 1216) (by decide +kernel)⟩
def lw_privs_1 : List (MethodName × Nat) := [(⟨"ArrowOrders", "beforeChange", "()V"⟩, 15), (⟨"ArrowOrders", "study", "()V"⟩, 15), (⟨"ArrowOrders", "isCrossed", "()Z"⟩, 15), (⟨"ArrowOrders", "crossedPlace", "(IZ)I"⟩, 15), (⟨"ArrowOrders", "heldIn", "(I)LArrowOrders$Net;"⟩, 15), (⟨"ArrowOrdersModel", "lays", "(I)V"⟩, 57), (⟨"ArrowOrdersModel", "cutsText", "()V"⟩, 57), (⟨"ArrowOrdersModel", "byteAt", "(I)I"⟩, 57), (⟨"ArrowOrdersModel", "token", "(IIIJ)V"⟩, 57), (⟨"ArrowOrdersModel", "signAt", "(II)I"⟩, 57), (⟨"ArrowOrdersModel", "must", "(I)V"⟩, 57), (⟨"ArrowOrdersModel", "is", "(I)Z"⟩, 57), (⟨"ArrowOrdersModel", "passes", "()V"⟩, 57), (⟨"ArrowOrdersModel", "fail", "(I)V"⟩, 57), (⟨"ArrowOrdersModel", "tellLine", "()V"⟩, 57), (⟨"ArrowOrdersModel", "means", "()V"⟩, 57)]
theorem lw_r1 : ∀ q ∈ lw_privs_1, lw_okq q := List.forall_mem_cons.mpr ⟨lw_p0, List.forall_mem_cons.mpr ⟨lw_p1, List.forall_mem_cons.mpr ⟨lw_p2, List.forall_mem_cons.mpr ⟨lw_p3, List.forall_mem_cons.mpr ⟨lw_p4, List.forall_mem_cons.mpr ⟨lw_p5, List.forall_mem_cons.mpr ⟨lw_p6, List.forall_mem_cons.mpr ⟨lw_p7, List.forall_mem_cons.mpr ⟨lw_p8, List.forall_mem_cons.mpr ⟨lw_p9, List.forall_mem_cons.mpr ⟨lw_p10, List.forall_mem_cons.mpr ⟨lw_p11, List.forall_mem_cons.mpr ⟨lw_p12, List.forall_mem_cons.mpr ⟨lw_p13, List.forall_mem_cons.mpr ⟨lw_p14, List.forall_mem_cons.mpr ⟨lw_p15, fun _ h => absurd h List.not_mem_nil⟩⟩⟩⟩⟩⟩⟩⟩⟩⟩⟩⟩⟩⟩⟩⟩
theorem lw_p16 : lw_okq (⟨"ArrowOrdersModel", "postAt", "(J)I"⟩, 57) := ⟨⟨by decide +kernel, by decide +kernel⟩, List.mem_of_getElem? (i := 973) (by decide +kernel), List.mem_of_getElem? (i := 1219) (by decide +kernel), List.mem_of_getElem? (i := 1220) (by decide +kernel)⟩
theorem lw_p17 : lw_okq (⟨"ArrowOrdersModel", "wrong", "(II)V"⟩, 57) := ⟨⟨by decide +kernel, by decide +kernel⟩, List.mem_of_getElem? (i := 973) (by decide +kernel), List.mem_of_getElem? (i := 1223) (by decide +kernel), List.mem_of_getElem? (i := 1224) (by decide +kernel)⟩
theorem lw_p18 : lw_okq (⟨"ArrowOrdersModel", "meansNames", "(I)V"⟩, 57) := ⟨⟨by decide +kernel, by decide +kernel⟩, List.mem_of_getElem? (i := 973) (by decide +kernel), List.mem_of_getElem? (i := 1227) (by decide +kernel), List.mem_of_getElem? (i := 1228) (by decide +kernel)⟩
theorem lw_p19 : lw_okq (⟨"ArrowOrdersModel", "meansCross", "(I)V"⟩, 57) := ⟨⟨by decide +kernel, by decide +kernel⟩, List.mem_of_getElem? (i := 973) (by decide +kernel), List.mem_of_getElem? (i := 1234) (by decide +kernel), List.mem_of_getElem? (i := 1235) (by decide +kernel)⟩
theorem lw_p20 : lw_okq (⟨"ArrowOrdersModel", "isToldAhead", "(II)Z"⟩, 57) := ⟨⟨by decide +kernel, by decide +kernel⟩, List.mem_of_getElem? (i := 973) (by decide +kernel), List.mem_of_getElem? (i := 1238) (by decide +kernel), List.mem_of_getElem? (i := 1239) (by decide +kernel)⟩
theorem lw_p21 : lw_okq (⟨"ArrowOrdersModel", "isPost", "(I)Z"⟩, 57) := ⟨⟨by decide +kernel, by decide +kernel⟩, List.mem_of_getElem? (i := 973) (by decide +kernel), List.mem_of_getElem? (i := 1268) (by decide +kernel), List.mem_of_getElem? (i := 1269) (by decide +kernel)⟩
theorem lw_p22 : lw_okq (⟨"ArrowOrdersModel", "marks", "()V"⟩, 57) := ⟨⟨by decide +kernel, by decide +kernel⟩, List.mem_of_getElem? (i := 973) (by decide +kernel), List.mem_of_getElem? (i := 1272) (by decide +kernel), List.mem_of_getElem? (i := 1273) (by decide +kernel)⟩
theorem lw_p23 : lw_okq (⟨"ArrowOrdersModel", "laysOther", "()V"⟩, 57) := ⟨⟨by decide +kernel, by decide +kernel⟩, List.mem_of_getElem? (i := 973) (by decide +kernel), List.mem_of_getElem? (i := 1280) (by decide +kernel), List.mem_of_getElem? (i := 1281) (by decide +kernel)⟩
theorem lw_p24 : lw_okq (⟨"ArrowOrdersModel", "lineMany", "()I"⟩, 57) := ⟨⟨by decide +kernel, by decide +kernel⟩, List.mem_of_getElem? (i := 973) (by decide +kernel), List.mem_of_getElem? (i := 1284) (by decide +kernel), List.mem_of_getElem? (i := 1285) (by decide +kernel)⟩
theorem lw_p25 : lw_okq (⟨"ArrowOrdersModel", "laysClass", "([II)V"⟩, 57) := ⟨⟨by decide +kernel, by decide +kernel⟩, List.mem_of_getElem? (i := 973) (by decide +kernel), List.mem_of_getElem? (i := 1324) (by decide +kernel), List.mem_of_getElem? (i := 1325) (by decide +kernel)⟩
theorem lw_p26 : lw_okq (⟨"ArrowOrdersModel", "isOdd", "()Z"⟩, 57) := ⟨⟨by decide +kernel, by decide +kernel⟩, List.mem_of_getElem? (i := 973) (by decide +kernel), List.mem_of_getElem? (i := 1328) (by decide +kernel), List.mem_of_getElem? (i := 1329) (by decide +kernel)⟩
theorem lw_p27 : lw_okq (⟨"ArrowOrdersModel", "lineAt", "(II)I"⟩, 57) := ⟨⟨by decide +kernel, by decide +kernel⟩, List.mem_of_getElem? (i := 973) (by decide +kernel), List.mem_of_getElem? (i := 1335) (by decide +kernel), List.mem_of_getElem? (i := 1336) (by decide +kernel)⟩
theorem lw_p28 : lw_okq (⟨"ArrowOrdersModel", "arrowAt", "(I)I"⟩, 57) := ⟨⟨by decide +kernel, by decide +kernel⟩, List.mem_of_getElem? (i := 973) (by decide +kernel), List.mem_of_getElem? (i := 1347) (by decide +kernel), List.mem_of_getElem? (i := 1348) (by decide +kernel)⟩
theorem lw_p29 : lw_okq (⟨"ArrowOrdersModel", "isArrowed", "()Z"⟩, 57) := ⟨⟨by decide +kernel, by decide +kernel⟩, List.mem_of_getElem? (i := 973) (by decide +kernel), List.mem_of_getElem? (i := 1351) (by decide +kernel), List.mem_of_getElem? (i := 1352) (by decide +kernel)⟩
theorem lw_p30 : lw_okq (⟨"ArrowOrdersModel", "isOrdered", "([I)Z"⟩, 57) := ⟨⟨by decide +kernel, by decide +kernel⟩, List.mem_of_getElem? (i := 973) (by decide +kernel), List.mem_of_getElem? (i := 1355) (by decide +kernel), List.mem_of_getElem? (i := 1356) (by decide +kernel)⟩
theorem lw_p31 : lw_okq (⟨"ArrowOrdersModel", "laysClasses", "([I)V"⟩, 57) := ⟨⟨by decide +kernel, by decide +kernel⟩, List.mem_of_getElem? (i := 973) (by decide +kernel), List.mem_of_getElem? (i := 1359) (by decide +kernel), List.mem_of_getElem? (i := 1360) (by decide +kernel)⟩
def lw_privs_2 : List (MethodName × Nat) := [(⟨"ArrowOrdersModel", "postAt", "(J)I"⟩, 57), (⟨"ArrowOrdersModel", "wrong", "(II)V"⟩, 57), (⟨"ArrowOrdersModel", "meansNames", "(I)V"⟩, 57), (⟨"ArrowOrdersModel", "meansCross", "(I)V"⟩, 57), (⟨"ArrowOrdersModel", "isToldAhead", "(II)Z"⟩, 57), (⟨"ArrowOrdersModel", "isPost", "(I)Z"⟩, 57), (⟨"ArrowOrdersModel", "marks", "()V"⟩, 57), (⟨"ArrowOrdersModel", "laysOther", "()V"⟩, 57), (⟨"ArrowOrdersModel", "lineMany", "()I"⟩, 57), (⟨"ArrowOrdersModel", "laysClass", "([II)V"⟩, 57), (⟨"ArrowOrdersModel", "isOdd", "()Z"⟩, 57), (⟨"ArrowOrdersModel", "lineAt", "(II)I"⟩, 57), (⟨"ArrowOrdersModel", "arrowAt", "(I)I"⟩, 57), (⟨"ArrowOrdersModel", "isArrowed", "()Z"⟩, 57), (⟨"ArrowOrdersModel", "isOrdered", "([I)Z"⟩, 57), (⟨"ArrowOrdersModel", "laysClasses", "([I)V"⟩, 57)]
theorem lw_r2 : ∀ q ∈ lw_privs_2, lw_okq q := List.forall_mem_cons.mpr ⟨lw_p16, List.forall_mem_cons.mpr ⟨lw_p17, List.forall_mem_cons.mpr ⟨lw_p18, List.forall_mem_cons.mpr ⟨lw_p19, List.forall_mem_cons.mpr ⟨lw_p20, List.forall_mem_cons.mpr ⟨lw_p21, List.forall_mem_cons.mpr ⟨lw_p22, List.forall_mem_cons.mpr ⟨lw_p23, List.forall_mem_cons.mpr ⟨lw_p24, List.forall_mem_cons.mpr ⟨lw_p25, List.forall_mem_cons.mpr ⟨lw_p26, List.forall_mem_cons.mpr ⟨lw_p27, List.forall_mem_cons.mpr ⟨lw_p28, List.forall_mem_cons.mpr ⟨lw_p29, List.forall_mem_cons.mpr ⟨lw_p30, List.forall_mem_cons.mpr ⟨lw_p31, fun _ h => absurd h List.not_mem_nil⟩⟩⟩⟩⟩⟩⟩⟩⟩⟩⟩⟩⟩⟩⟩⟩
theorem lw_p32 : lw_okq (⟨"ArrowOrdersModel", "laysArrows", "([IZ)V"⟩, 57) := ⟨⟨by decide +kernel, by decide +kernel⟩, List.mem_of_getElem? (i := 973) (by decide +kernel), List.mem_of_getElem? (i := 1363) (by decide +kernel), List.mem_of_getElem? (i := 1364) (by decide +kernel)⟩
theorem lw_p33 : lw_okq (⟨"ArrowOrdersModel", "leastLeft", "()I"⟩, 57) := ⟨⟨by decide +kernel, by decide +kernel⟩, List.mem_of_getElem? (i := 973) (by decide +kernel), List.mem_of_getElem? (i := 1367) (by decide +kernel), List.mem_of_getElem? (i := 1368) (by decide +kernel)⟩
theorem lw_p34 : lw_okq (⟨"ArrowOrdersModel", "laysFar", "(I)V"⟩, 57) := ⟨⟨by decide +kernel, by decide +kernel⟩, List.mem_of_getElem? (i := 973) (by decide +kernel), List.mem_of_getElem? (i := 1379) (by decide +kernel), List.mem_of_getElem? (i := 1380) (by decide +kernel)⟩
theorem lw_p35 : lw_okq (⟨"ArrowOrdersModel", "ways", "()I"⟩, 57) := ⟨⟨by decide +kernel, by decide +kernel⟩, List.mem_of_getElem? (i := 973) (by decide +kernel), List.mem_of_getElem? (i := 1387) (by decide +kernel), List.mem_of_getElem? (i := 1388) (by decide +kernel)⟩
theorem lw_p36 : lw_okq (⟨"ArrowOrdersModel", "takesOff", "(I)V"⟩, 57) := ⟨⟨by decide +kernel, by decide +kernel⟩, List.mem_of_getElem? (i := 973) (by decide +kernel), List.mem_of_getElem? (i := 1391) (by decide +kernel), List.mem_of_getElem? (i := 1392) (by decide +kernel)⟩
theorem lw_p37 : lw_okq (⟨"ArrowOrdersModel", "fromOf", "(I)I"⟩, 57) := ⟨⟨by decide +kernel, by decide +kernel⟩, List.mem_of_getElem? (i := 973) (by decide +kernel), List.mem_of_getElem? (i := 1395) (by decide +kernel), List.mem_of_getElem? (i := 1396) (by decide +kernel)⟩
theorem lw_p38 : lw_okq (⟨"ArrowOrdersModel", "toOf", "(I)I"⟩, 57) := ⟨⟨by decide +kernel, by decide +kernel⟩, List.mem_of_getElem? (i := 973) (by decide +kernel), List.mem_of_getElem? (i := 1399) (by decide +kernel), List.mem_of_getElem? (i := 1400) (by decide +kernel)⟩
theorem lw_p39 : lw_okq (⟨"ArrowOrdersModel", "putsOn", "(I)V"⟩, 57) := ⟨⟨by decide +kernel, by decide +kernel⟩, List.mem_of_getElem? (i := 973) (by decide +kernel), List.mem_of_getElem? (i := 1403) (by decide +kernel), List.mem_of_getElem? (i := 1404) (by decide +kernel)⟩
theorem lw_p40 : lw_okq (⟨"ArrowOrdersModel", "agrees", "(I)Z"⟩, 57) := ⟨⟨by decide +kernel, by decide +kernel⟩, List.mem_of_getElem? (i := 973) (by decide +kernel), List.mem_of_getElem? (i := 1407) (by decide +kernel), List.mem_of_getElem? (i := 1408) (by decide +kernel)⟩
theorem lw_p41 : lw_okq (⟨"ArrowOrdersModel", "isCrossed", "()Z"⟩, 57) := ⟨⟨by decide +kernel, by decide +kernel⟩, List.mem_of_getElem? (i := 973) (by decide +kernel), List.mem_of_getElem? (i := 1411) (by decide +kernel), List.mem_of_getElem? (i := 1412) (by decide +kernel)⟩
theorem lw_p42 : lw_okq (⟨"ArrowOrdersModel", "partMany", "()I"⟩, 57) := ⟨⟨by decide +kernel, by decide +kernel⟩, List.mem_of_getElem? (i := 973) (by decide +kernel), List.mem_of_getElem? (i := 1415) (by decide +kernel), List.mem_of_getElem? (i := 1416) (by decide +kernel)⟩
theorem lw_p43 : lw_okq (⟨"ArrowOrdersModel", "greatestLevel", "()I"⟩, 57) := ⟨⟨by decide +kernel, by decide +kernel⟩, List.mem_of_getElem? (i := 973) (by decide +kernel), List.mem_of_getElem? (i := 1423) (by decide +kernel), List.mem_of_getElem? (i := 1424) (by decide +kernel)⟩
theorem lw_p44 : lw_okq (⟨"ArrowOrdersModel", "coversOf", "(I)I"⟩, 57) := ⟨⟨by decide +kernel, by decide +kernel⟩, List.mem_of_getElem? (i := 973) (by decide +kernel), List.mem_of_getElem? (i := 1427) (by decide +kernel), List.mem_of_getElem? (i := 1428) (by decide +kernel)⟩
theorem lw_p45 : lw_okq (⟨"ArrowOrdersModel", "laysStraight", "()V"⟩, 57) := ⟨⟨by decide +kernel, by decide +kernel⟩, List.mem_of_getElem? (i := 973) (by decide +kernel), List.mem_of_getElem? (i := 1431) (by decide +kernel), List.mem_of_getElem? (i := 1432) (by decide +kernel)⟩
theorem lw_p46 : lw_okq (⟨"ArrowOrdersModel", "crossedPlace", "(IZ)I"⟩, 57) := ⟨⟨by decide +kernel, by decide +kernel⟩, List.mem_of_getElem? (i := 973) (by decide +kernel), List.mem_of_getElem? (i := 1435) (by decide +kernel), List.mem_of_getElem? (i := 1436) (by decide +kernel)⟩
theorem lw_p47 : lw_okq (⟨"ArrowOrdersModel", "straights", "()I"⟩, 57) := ⟨⟨by decide +kernel, by decide +kernel⟩, List.mem_of_getElem? (i := 973) (by decide +kernel), List.mem_of_getElem? (i := 1443) (by decide +kernel), List.mem_of_getElem? (i := 1444) (by decide +kernel)⟩
def lw_privs_3 : List (MethodName × Nat) := [(⟨"ArrowOrdersModel", "laysArrows", "([IZ)V"⟩, 57), (⟨"ArrowOrdersModel", "leastLeft", "()I"⟩, 57), (⟨"ArrowOrdersModel", "laysFar", "(I)V"⟩, 57), (⟨"ArrowOrdersModel", "ways", "()I"⟩, 57), (⟨"ArrowOrdersModel", "takesOff", "(I)V"⟩, 57), (⟨"ArrowOrdersModel", "fromOf", "(I)I"⟩, 57), (⟨"ArrowOrdersModel", "toOf", "(I)I"⟩, 57), (⟨"ArrowOrdersModel", "putsOn", "(I)V"⟩, 57), (⟨"ArrowOrdersModel", "agrees", "(I)Z"⟩, 57), (⟨"ArrowOrdersModel", "isCrossed", "()Z"⟩, 57), (⟨"ArrowOrdersModel", "partMany", "()I"⟩, 57), (⟨"ArrowOrdersModel", "greatestLevel", "()I"⟩, 57), (⟨"ArrowOrdersModel", "coversOf", "(I)I"⟩, 57), (⟨"ArrowOrdersModel", "laysStraight", "()V"⟩, 57), (⟨"ArrowOrdersModel", "crossedPlace", "(IZ)I"⟩, 57), (⟨"ArrowOrdersModel", "straights", "()I"⟩, 57)]
theorem lw_r3 : ∀ q ∈ lw_privs_3, lw_okq q := List.forall_mem_cons.mpr ⟨lw_p32, List.forall_mem_cons.mpr ⟨lw_p33, List.forall_mem_cons.mpr ⟨lw_p34, List.forall_mem_cons.mpr ⟨lw_p35, List.forall_mem_cons.mpr ⟨lw_p36, List.forall_mem_cons.mpr ⟨lw_p37, List.forall_mem_cons.mpr ⟨lw_p38, List.forall_mem_cons.mpr ⟨lw_p39, List.forall_mem_cons.mpr ⟨lw_p40, List.forall_mem_cons.mpr ⟨lw_p41, List.forall_mem_cons.mpr ⟨lw_p42, List.forall_mem_cons.mpr ⟨lw_p43, List.forall_mem_cons.mpr ⟨lw_p44, List.forall_mem_cons.mpr ⟨lw_p45, List.forall_mem_cons.mpr ⟨lw_p46, List.forall_mem_cons.mpr ⟨lw_p47, fun _ h => absurd h List.not_mem_nil⟩⟩⟩⟩⟩⟩⟩⟩⟩⟩⟩⟩⟩⟩⟩⟩
theorem lw_p48 : lw_okq (⟨"ArrowOrdersModel", "waysBehind", "(I)I"⟩, 57) := ⟨⟨by decide +kernel, by decide +kernel⟩, List.mem_of_getElem? (i := 973) (by decide +kernel), List.mem_of_getElem? (i := 1447) (by decide +kernel), List.mem_of_getElem? (i := 1448) (by decide +kernel)⟩
theorem lw_p49 : lw_okq (⟨"ArrowOrdersModel", "isApart", "(I)Z"⟩, 57) := ⟨⟨by decide +kernel, by decide +kernel⟩, List.mem_of_getElem? (i := 973) (by decide +kernel), List.mem_of_getElem? (i := 1460) (by decide +kernel), List.mem_of_getElem? (i := 1461) (by decide +kernel)⟩
theorem lw_p50 : lw_okq (⟨"ArrowOrdersModel", "isSuch", "(II)Z"⟩, 57) := ⟨⟨by decide +kernel, by decide +kernel⟩, List.mem_of_getElem? (i := 973) (by decide +kernel), List.mem_of_getElem? (i := 1468) (by decide +kernel), List.mem_of_getElem? (i := 1469) (by decide +kernel)⟩
theorem lw_p51 : lw_okq (⟨"ArrowOrdersModel", "isChain", "(I)Z"⟩, 57) := ⟨⟨by decide +kernel, by decide +kernel⟩, List.mem_of_getElem? (i := 973) (by decide +kernel), List.mem_of_getElem? (i := 1472) (by decide +kernel), List.mem_of_getElem? (i := 1473) (by decide +kernel)⟩
theorem lw_p52 : lw_okq (⟨"ArrowOrdersModel", "isAlike", "(I)Z"⟩, 57) := ⟨⟨by decide +kernel, by decide +kernel⟩, List.mem_of_getElem? (i := 973) (by decide +kernel), List.mem_of_getElem? (i := 1476) (by decide +kernel), List.mem_of_getElem? (i := 1477) (by decide +kernel)⟩
theorem lw_p53 : lw_okq (⟨"ArrowOrdersModel", "isRound", "(I)Z"⟩, 57) := ⟨⟨by decide +kernel, by decide +kernel⟩, List.mem_of_getElem? (i := 973) (by decide +kernel), List.mem_of_getElem? (i := 1480) (by decide +kernel), List.mem_of_getElem? (i := 1481) (by decide +kernel)⟩
theorem lw_p54 : lw_okq (⟨"ArrowOrdersModel", "coverMany", "()I"⟩, 57) := ⟨⟨by decide +kernel, by decide +kernel⟩, List.mem_of_getElem? (i := 973) (by decide +kernel), List.mem_of_getElem? (i := 1488) (by decide +kernel), List.mem_of_getElem? (i := 1489) (by decide +kernel)⟩
theorem lw_p55 : lw_okq (⟨"ArrowOrdersModel", "greatestSet", "(I)I"⟩, 57) := ⟨⟨by decide +kernel, by decide +kernel⟩, List.mem_of_getElem? (i := 973) (by decide +kernel), List.mem_of_getElem? (i := 1492) (by decide +kernel), List.mem_of_getElem? (i := 1493) (by decide +kernel)⟩
theorem lw_p56 : lw_okq (⟨"ArrowOrdersModel", "fewestChains", "()I"⟩, 57) := ⟨⟨by decide +kernel, by decide +kernel⟩, List.mem_of_getElem? (i := 973) (by decide +kernel), List.mem_of_getElem? (i := 1496) (by decide +kernel), List.mem_of_getElem? (i := 1497) (by decide +kernel)⟩
theorem lw_p57 : lw_okq (⟨"ArrowOrdersModel", "downMany", "()I"⟩, 57) := ⟨⟨by decide +kernel, by decide +kernel⟩, List.mem_of_getElem? (i := 973) (by decide +kernel), List.mem_of_getElem? (i := 1500) (by decide +kernel), List.mem_of_getElem? (i := 1501) (by decide +kernel)⟩
theorem lw_p58 : lw_okq (⟨"ArrowOrdersModel", "fewestJumps", "()I"⟩, 57) := ⟨⟨by decide +kernel, by decide +kernel⟩, List.mem_of_getElem? (i := 973) (by decide +kernel), List.mem_of_getElem? (i := 1504) (by decide +kernel), List.mem_of_getElem? (i := 1505) (by decide +kernel)⟩
theorem lw_p59 : lw_okq (⟨"ArrowOrdersModel", "jumpsTo", "(II)I"⟩, 57) := ⟨⟨by decide +kernel, by decide +kernel⟩, List.mem_of_getElem? (i := 973) (by decide +kernel), List.mem_of_getElem? (i := 1508) (by decide +kernel), List.mem_of_getElem? (i := 1509) (by decide +kernel)⟩
theorem lw_p60 : lw_okq (⟨"ArrowOrdersModel", "laysChains", "(I)V"⟩, 57) := ⟨⟨by decide +kernel, by decide +kernel⟩, List.mem_of_getElem? (i := 973) (by decide +kernel), List.mem_of_getElem? (i := 1516) (by decide +kernel), List.mem_of_getElem? (i := 1517) (by decide +kernel)⟩
theorem lw_p61 : lw_okq (⟨"ArrowOrdersModel", "likes", "()I"⟩, 57) := ⟨⟨by decide +kernel, by decide +kernel⟩, List.mem_of_getElem? (i := 973) (by decide +kernel), List.mem_of_getElem? (i := 1524) (by decide +kernel), List.mem_of_getElem? (i := 1525) (by decide +kernel)⟩
theorem lw_p62 : lw_okq (⟨"ArrowOrdersModel", "fitsAt", "(I)Z"⟩, 57) := ⟨⟨by decide +kernel, by decide +kernel⟩, List.mem_of_getElem? (i := 973) (by decide +kernel), List.mem_of_getElem? (i := 1528) (by decide +kernel), List.mem_of_getElem? (i := 1529) (by decide +kernel)⟩
theorem lw_p63 : lw_okq (⟨"ArrowOrdersModel", "suchMany", "(I)I"⟩, 57) := ⟨⟨by decide +kernel, by decide +kernel⟩, List.mem_of_getElem? (i := 973) (by decide +kernel), List.mem_of_getElem? (i := 1536) (by decide +kernel), List.mem_of_getElem? (i := 1537) (by decide +kernel)⟩
def lw_privs_4 : List (MethodName × Nat) := [(⟨"ArrowOrdersModel", "waysBehind", "(I)I"⟩, 57), (⟨"ArrowOrdersModel", "isApart", "(I)Z"⟩, 57), (⟨"ArrowOrdersModel", "isSuch", "(II)Z"⟩, 57), (⟨"ArrowOrdersModel", "isChain", "(I)Z"⟩, 57), (⟨"ArrowOrdersModel", "isAlike", "(I)Z"⟩, 57), (⟨"ArrowOrdersModel", "isRound", "(I)Z"⟩, 57), (⟨"ArrowOrdersModel", "coverMany", "()I"⟩, 57), (⟨"ArrowOrdersModel", "greatestSet", "(I)I"⟩, 57), (⟨"ArrowOrdersModel", "fewestChains", "()I"⟩, 57), (⟨"ArrowOrdersModel", "downMany", "()I"⟩, 57), (⟨"ArrowOrdersModel", "fewestJumps", "()I"⟩, 57), (⟨"ArrowOrdersModel", "jumpsTo", "(II)I"⟩, 57), (⟨"ArrowOrdersModel", "laysChains", "(I)V"⟩, 57), (⟨"ArrowOrdersModel", "likes", "()I"⟩, 57), (⟨"ArrowOrdersModel", "fitsAt", "(I)Z"⟩, 57), (⟨"ArrowOrdersModel", "suchMany", "(I)I"⟩, 57)]
theorem lw_r4 : ∀ q ∈ lw_privs_4, lw_okq q := List.forall_mem_cons.mpr ⟨lw_p48, List.forall_mem_cons.mpr ⟨lw_p49, List.forall_mem_cons.mpr ⟨lw_p50, List.forall_mem_cons.mpr ⟨lw_p51, List.forall_mem_cons.mpr ⟨lw_p52, List.forall_mem_cons.mpr ⟨lw_p53, List.forall_mem_cons.mpr ⟨lw_p54, List.forall_mem_cons.mpr ⟨lw_p55, List.forall_mem_cons.mpr ⟨lw_p56, List.forall_mem_cons.mpr ⟨lw_p57, List.forall_mem_cons.mpr ⟨lw_p58, List.forall_mem_cons.mpr ⟨lw_p59, List.forall_mem_cons.mpr ⟨lw_p60, List.forall_mem_cons.mpr ⟨lw_p61, List.forall_mem_cons.mpr ⟨lw_p62, List.forall_mem_cons.mpr ⟨lw_p63, fun _ h => absurd h List.not_mem_nil⟩⟩⟩⟩⟩⟩⟩⟩⟩⟩⟩⟩⟩⟩⟩⟩
theorem lw_p64 : lw_okq (⟨"ArrowOrdersModel", "likeItself", "()I"⟩, 57) := ⟨⟨by decide +kernel, by decide +kernel⟩, List.mem_of_getElem? (i := 973) (by decide +kernel), List.mem_of_getElem? (i := 1540) (by decide +kernel), List.mem_of_getElem? (i := 1541) (by decide +kernel)⟩
def lw_privs_5 : List (MethodName × Nat) := [(⟨"ArrowOrdersModel", "likeItself", "()I"⟩, 57)]
theorem lw_r5 : ∀ q ∈ lw_privs_5, lw_okq q := List.forall_mem_cons.mpr ⟨lw_p64, fun _ h => absurd h List.not_mem_nil⟩
def lw_privs : List (MethodName × Nat) := lw_privs_1 ++ (lw_privs_2 ++ (lw_privs_3 ++ (lw_privs_4 ++ (lw_privs_5))))
def lw_tbl : List Cond := k2_sels lw_privs ++ tables_1
theorem lw_privs_ok : ∀ q ∈ lw_privs, lw_okq q := by
  show ∀ q ∈ lw_privs_1 ++ (lw_privs_2 ++ (lw_privs_3 ++ (lw_privs_4 ++ (lw_privs_5)))), lw_okq q
  exact List.forall_mem_append.mpr ⟨lw_r1, List.forall_mem_append.mpr ⟨lw_r2, List.forall_mem_append.mpr ⟨lw_r3, List.forall_mem_append.mpr ⟨lw_r4, lw_r5⟩⟩⟩⟩
-- ===== end of PART A; then your names; then what follows =====
def RX0 : String := "ArrowOrders$Arrowing"
def TX0 : u_T := fun k => match k with
  | 0 => ("ArrowOrders$Arrowing", "reach", "LArrowOrders$Reach;", true)
  | 1 => ("ArrowOrders$Arrowing", "left", "[I", true)
  | 2 => ("ArrowOrders$Arrowing", "above", "[I", true)
  | 3 => ("ArrowOrders$Arrowing", "step", "[I", true)
  | _ => ("ArrowOrders$Arrowing", "steps", "I", false)
def tyX0 : Nat → FieldType := fun k => match k with
  | 0 => .object "ArrowOrders$Reach"
  | 1 => .array .int
  | 2 => .array .int
  | 3 => .array .int
  | _ => .int
abbrev wsX00 : List Cond := u_ws RX0 TX0 5
theorem nmX0 : ∀ a, a < 5 → ∀ b, b < 5 → a ≠ b → (TX0 a).2.1 ≠ (TX0 b).2.1 := by decide +kernel
theorem tyX0_ok : ∀ k, k < 5 → parseFieldDescriptor (TX0 k).2.2.1 = some (tyX0 k) := by decide +kernel
abbrev cX0_init : ByteArray := prog_2_method_1_code
def yX0_init : MethodName := ⟨RX0, "<init>", "()V"⟩
abbrev cX0_solve : ByteArray := prog_2_method_2_code
def yX0_solve : MethodName := ⟨RX0, "solve", "([IZ)V"⟩
abbrev cX0_takeClass : ByteArray := prog_2_method_3_code
def yX0_takeClass : MethodName := ⟨RX0, "takeClass", "(I)V"⟩
abbrev cX0_has : ByteArray := prog_2_method_4_code
def yX0_has : MethodName := ⟨RX0, "has", "(I)Z"⟩
abbrev cX0_stepOf : ByteArray := prog_2_method_5_code
def yX0_stepOf : MethodName := ⟨RX0, "stepOf", "(I)I"⟩
abbrev cX0_countSteps : ByteArray := prog_2_method_6_code
def yX0_countSteps : MethodName := ⟨RX0, "countSteps", "()I"⟩
def RX1 : String := "ArrowOrders$Classes"
def TX1 : u_T := fun k => match k with
  | 0 => ("ArrowOrders$Classes", "reach", "LArrowOrders$Reach;", true)
  | 1 => ("ArrowOrders$Classes", "rows", "[I", true)
  | 2 => ("ArrowOrders$Classes", "classOf", "[I", true)
  | 3 => ("ArrowOrders$Classes", "classes", "I", false)
  | _ => ("ArrowOrders$Classes", "odd", "I", false)
def tyX1 : Nat → FieldType := fun k => match k with
  | 0 => .object "ArrowOrders$Reach"
  | 1 => .array .int
  | 2 => .array .int
  | 3 => .int
  | _ => .int
abbrev wsX10 : List Cond := u_ws RX1 TX1 5
theorem nmX1 : ∀ a, a < 5 → ∀ b, b < 5 → a ≠ b → (TX1 a).2.1 ≠ (TX1 b).2.1 := by decide +kernel
theorem tyX1_ok : ∀ k, k < 5 → parseFieldDescriptor (TX1 k).2.2.1 = some (tyX1 k) := by decide +kernel
abbrev cX1_init : ByteArray := prog_3_method_1_code
def yX1_init : MethodName := ⟨RX1, "<init>", "()V"⟩
abbrev cX1_solve : ByteArray := prog_3_method_2_code
def yX1_solve : MethodName := ⟨RX1, "solve", "([I)V"⟩
abbrev cX1_addClass : ByteArray := prog_3_method_3_code
def yX1_addClass : MethodName := ⟨RX1, "addClass", "(I)V"⟩
abbrev cX1_isOrdered : ByteArray := prog_3_method_4_code
def yX1_isOrdered : MethodName := ⟨RX1, "isOrdered", "()Z"⟩
abbrev cX1_countAll : ByteArray := prog_3_method_5_code
def yX1_countAll : MethodName := ⟨RX1, "countAll", "()I"⟩
abbrev cX1_countOdd : ByteArray := prog_3_method_6_code
def yX1_countOdd : MethodName := ⟨RX1, "countOdd", "()I"⟩
abbrev cX1_sizeOf : ByteArray := prog_3_method_7_code
def yX1_sizeOf : MethodName := ⟨RX1, "sizeOf", "(I)I"⟩
abbrev cX1_isOdd : ByteArray := prog_3_method_8_code
def yX1_isOdd : MethodName := ⟨RX1, "isOdd", "(I)Z"⟩
abbrev cX1_linesOf : ByteArray := prog_3_method_9_code
def yX1_linesOf : MethodName := ⟨RX1, "linesOf", "(I)I"⟩
abbrev cX1_walkLength : ByteArray := prog_3_method_10_code
def yX1_walkLength : MethodName := ⟨RX1, "walkLength", "(I)I"⟩
abbrev cX1_walkAt : ByteArray := prog_3_method_11_code
def yX1_walkAt : MethodName := ⟨RX1, "walkAt", "(II)I"⟩
abbrev cX1_nextOfWalk : ByteArray := prog_3_method_12_code
def yX1_nextOfWalk : MethodName := ⟨RX1, "nextOfWalk", "(I)I"⟩
def RX2 : String := "ArrowOrders$Modules"
def TX2 : u_T := fun k => match k with
  | _ => ("ArrowOrders$Modules", "alike", "[Z", true)
def tyX2 : Nat → FieldType := fun k => match k with
  | _ => .array .boolean
abbrev wsX20 : List Cond := u_ws RX2 TX2 1
theorem nmX2 : ∀ a, a < 1 → ∀ b, b < 1 → a ≠ b → (TX2 a).2.1 ≠ (TX2 b).2.1 := by decide +kernel
theorem tyX2_ok : ∀ k, k < 1 → parseFieldDescriptor (TX2 k).2.2.1 = some (tyX2 k) := by decide +kernel
abbrev cX2_init : ByteArray := prog_4_method_1_code
def yX2_init : MethodName := ⟨RX2, "<init>", "()V"⟩
abbrev cX2_ways : ByteArray := prog_4_method_2_code
def yX2_ways : MethodName := ⟨RX2, "ways", "(LArrowOrders$Net;LArrowOrders$Net;)I"⟩
abbrev cX2_isOverlapped : ByteArray := prog_4_method_3_code
def yX2_isOverlapped : MethodName := ⟨RX2, "isOverlapped", "(II)Z"⟩
abbrev cX2_ownWays : ByteArray := prog_4_method_4_code
def yX2_ownWays : MethodName := ⟨RX2, "ownWays", "(LArrowOrders$Net;LArrowOrders$Net;I)I"⟩
abbrev cX2_factorial : ByteArray := prog_4_method_5_code
def yX2_factorial : MethodName := ⟨RX2, "factorial", "(I)I"⟩
def RX3 : String := "ArrowOrders$Net"
def TX3 : u_T := fun k => match k with
  | 0 => ("ArrowOrders$Net", "posts", "I", false)
  | 1 => ("ArrowOrders$Net", "otherWay", "Z", false)
  | _ => ("ArrowOrders$Net", "rows", "[I", true)
def tyX3 : Nat → FieldType := fun k => match k with
  | 0 => .int
  | 1 => .boolean
  | _ => .array .int
abbrev wsX30 : List Cond := u_ws RX3 TX3 3
theorem nmX3 : ∀ a, a < 3 → ∀ b, b < 3 → a ≠ b → (TX3 a).2.1 ≠ (TX3 b).2.1 := by decide +kernel
theorem tyX3_ok : ∀ k, k < 3 → parseFieldDescriptor (TX3 k).2.2.1 = some (tyX3 k) := by decide +kernel
abbrev cX3_init : ByteArray := prog_5_method_1_code
def yX3_init : MethodName := ⟨RX3, "<init>", "()V"⟩
abbrev cX3_hasPost : ByteArray := prog_5_method_2_code
def yX3_hasPost : MethodName := ⟨RX3, "hasPost", "(I)Z"⟩
abbrev cX3_hasPair : ByteArray := prog_5_method_3_code
def yX3_hasPair : MethodName := ⟨RX3, "hasPair", "(II)Z"⟩
abbrev cX3_hasLine : ByteArray := prog_5_method_4_code
def yX3_hasLine : MethodName := ⟨RX3, "hasLine", "(II)Z"⟩
abbrev cX3_rowOf : ByteArray := prog_5_method_5_code
def yX3_rowOf : MethodName := ⟨RX3, "rowOf", "(I)I"⟩
abbrev cX3_everyPost : ByteArray := prog_5_method_6_code
def yX3_everyPost : MethodName := ⟨RX3, "everyPost", "()I"⟩
abbrev cX3_countLines : ByteArray := prog_5_method_7_code
def yX3_countLines : MethodName := ⟨RX3, "countLines", "()I"⟩
abbrev cX3_lineAt : ByteArray := prog_5_method_8_code
def yX3_lineAt : MethodName := ⟨RX3, "lineAt", "(I)I"⟩
abbrev cX3_clear : ByteArray := prog_5_method_9_code
def yX3_clear : MethodName := ⟨RX3, "clear", "()V"⟩
abbrev cX3_copyFrom : ByteArray := prog_5_method_10_code
def yX3_copyFrom : MethodName := ⟨RX3, "copyFrom", "(LArrowOrders$Net;)V"⟩
abbrev cX3_join : ByteArray := prog_5_method_11_code
def yX3_join : MethodName := ⟨RX3, "join", "(II)V"⟩
abbrev cX3_flip : ByteArray := prog_5_method_12_code
def yX3_flip : MethodName := ⟨RX3, "flip", "(II)V"⟩
abbrev cX3_turnOver : ByteArray := prog_5_method_13_code
def yX3_turnOver : MethodName := ⟨RX3, "turnOver", "()V"⟩
abbrev cX3_swap : ByteArray := prog_5_method_14_code
def yX3_swap : MethodName := ⟨RX3, "swap", "(II)V"⟩
abbrev cX3_strip : ByteArray := prog_5_method_15_code
def yX3_strip : MethodName := ⟨RX3, "strip", "(I)V"⟩
def RX4 : String := "ArrowOrders$Past"
def TX4 : u_T := fun k => match k with
  | 0 => ("ArrowOrders$Past", "ring", "[LArrowOrders$Net;", true)
  | 1 => ("ArrowOrders$Past", "next", "I", false)
  | _ => ("ArrowOrders$Past", "size", "I", false)
def tyX4 : Nat → FieldType := fun k => match k with
  | 0 => .array (.object "ArrowOrders$Net")
  | 1 => .int
  | _ => .int
abbrev wsX40 : List Cond := u_ws RX4 TX4 3
theorem nmX4 : ∀ a, a < 3 → ∀ b, b < 3 → a ≠ b → (TX4 a).2.1 ≠ (TX4 b).2.1 := by decide +kernel
theorem tyX4_ok : ∀ k, k < 3 → parseFieldDescriptor (TX4 k).2.2.1 = some (tyX4 k) := by decide +kernel
abbrev cX4_init : ByteArray := prog_6_method_1_code
def yX4_init : MethodName := ⟨RX4, "<init>", "()V"⟩
abbrev cX4_keep : ByteArray := prog_6_method_2_code
def yX4_keep : MethodName := ⟨RX4, "keep", "(LArrowOrders$Net;)V"⟩
abbrev cX4_takeBack : ByteArray := prog_6_method_3_code
def yX4_takeBack : MethodName := ⟨RX4, "takeBack", "(LArrowOrders$Net;)Z"⟩
abbrev cX4_forget : ByteArray := prog_6_method_4_code
def yX4_forget : MethodName := ⟨RX4, "forget", "()V"⟩
def RX5 : String := "ArrowOrders$Ranks"
def TX5 : u_T := fun k => match k with
  | 0 => ("ArrowOrders$Ranks", "above", "[I", true)
  | 1 => ("ArrowOrders$Ranks", "below", "[I", true)
  | 2 => ("ArrowOrders$Ranks", "levels", "[I", true)
  | 3 => ("ArrowOrders$Ranks", "waysOn", "[I", true)
  | 4 => ("ArrowOrders$Ranks", "signs", "[I", true)
  | 5 => ("ArrowOrders$Ranks", "jumps", "[I", true)
  | _ => ("ArrowOrders$Ranks", "posts", "I", false)
def tyX5 : Nat → FieldType := fun k => match k with
  | 0 => .array .int
  | 1 => .array .int
  | 2 => .array .int
  | 3 => .array .int
  | 4 => .array .int
  | 5 => .array .int
  | _ => .int
abbrev wsX50 : List Cond := u_ws RX5 TX5 7
theorem nmX5 : ∀ a, a < 7 → ∀ b, b < 7 → a ≠ b → (TX5 a).2.1 ≠ (TX5 b).2.1 := by decide +kernel
theorem tyX5_ok : ∀ k, k < 7 → parseFieldDescriptor (TX5 k).2.2.1 = some (tyX5 k) := by decide +kernel
abbrev cX5_init : ByteArray := prog_7_method_1_code
def yX5_init : MethodName := ⟨RX5, "<init>", "()V"⟩
abbrev cX5_solve : ByteArray := prog_7_method_2_code
def yX5_solve : MethodName := ⟨RX5, "solve", "(ILArrowOrders$Arrowing;)V"⟩
abbrev cX5_raiseLevels : ByteArray := prog_7_method_3_code
def yX5_raiseLevels : MethodName := ⟨RX5, "raiseLevels", "()V"⟩
abbrev cX5_countWaysOn : ByteArray := prog_7_method_4_code
def yX5_countWaysOn : MethodName := ⟨RX5, "countWaysOn", "()V"⟩
abbrev cX5_isNext : ByteArray := prog_7_method_5_code
def yX5_isNext : MethodName := ⟨RX5, "isNext", "(II)Z"⟩
abbrev cX5_isUnder : ByteArray := prog_7_method_6_code
def yX5_isUnder : MethodName := ⟨RX5, "isUnder", "(II)Z"⟩
abbrev cX5_levelOf : ByteArray := prog_7_method_7_code
def yX5_levelOf : MethodName := ⟨RX5, "levelOf", "(I)I"⟩
abbrev cX5_belowOf : ByteArray := prog_7_method_8_code
def yX5_belowOf : MethodName := ⟨RX5, "belowOf", "(I)I"⟩
abbrev cX5_aboveOf : ByteArray := prog_7_method_9_code
def yX5_aboveOf : MethodName := ⟨RX5, "aboveOf", "(I)I"⟩
abbrev cX5_coveredBy : ByteArray := prog_7_method_10_code
def yX5_coveredBy : MethodName := ⟨RX5, "coveredBy", "(I)I"⟩
abbrev cX5_countCovers : ByteArray := prog_7_method_11_code
def yX5_countCovers : MethodName := ⟨RX5, "countCovers", "()I"⟩
abbrev cX5_greatestLevel : ByteArray := prog_7_method_12_code
def yX5_greatestLevel : MethodName := ⟨RX5, "greatestLevel", "()I"⟩
abbrev cX5_countStraight : ByteArray := prog_7_method_13_code
def yX5_countStraight : MethodName := ⟨RX5, "countStraight", "()I"⟩
abbrev cX5_straightAt : ByteArray := prog_7_method_14_code
def yX5_straightAt : MethodName := ⟨RX5, "straightAt", "(II)I"⟩
abbrev cX5_firstPlaceOf : ByteArray := prog_7_method_15_code
def yX5_firstPlaceOf : MethodName := ⟨RX5, "firstPlaceOf", "(I)I"⟩
abbrev cX5_countDown : ByteArray := prog_7_method_16_code
def yX5_countDown : MethodName := ⟨RX5, "countDown", "()I"⟩
abbrev cX5_isDown : ByteArray := prog_7_method_17_code
def yX5_isDown : MethodName := ⟨RX5, "isDown", "(I)Z"⟩
abbrev cX5_signOf : ByteArray := prog_7_method_18_code
def yX5_signOf : MethodName := ⟨RX5, "signOf", "(II)I"⟩
abbrev cX5_sumOfSigns : ByteArray := prog_7_method_19_code
def yX5_sumOfSigns : MethodName := ⟨RX5, "sumOfSigns", "(I)I"⟩
abbrev cX5_fewestJumps : ByteArray := prog_7_method_20_code
def yX5_fewestJumps : MethodName := ⟨RX5, "fewestJumps", "()I"⟩
abbrev cX5_jumpCell : ByteArray := prog_7_method_21_code
def yX5_jumpCell : MethodName := ⟨RX5, "jumpCell", "(II)I"⟩
abbrev cX5_jumpOn : ByteArray := prog_7_method_22_code
def yX5_jumpOn : MethodName := ⟨RX5, "jumpOn", "(I)V"⟩
def RX6 : String := "ArrowOrders$Reach"
def TX6 : u_T := fun k => match k with
  | 0 => ("ArrowOrders$Reach", "steps", "[I", true)
  | 1 => ("ArrowOrders$Reach", "found", "[I", true)
  | _ => ("ArrowOrders$Reach", "size", "I", false)
def tyX6 : Nat → FieldType := fun k => match k with
  | 0 => .array .int
  | 1 => .array .int
  | _ => .int
abbrev wsX60 : List Cond := u_ws RX6 TX6 3
theorem nmX6 : ∀ a, a < 3 → ∀ b, b < 3 → a ≠ b → (TX6 a).2.1 ≠ (TX6 b).2.1 := by decide +kernel
theorem tyX6_ok : ∀ k, k < 3 → parseFieldDescriptor (TX6 k).2.2.1 = some (tyX6 k) := by decide +kernel
abbrev cX6_init : ByteArray := prog_8_method_1_code
def yX6_init : MethodName := ⟨RX6, "<init>", "()V"⟩
abbrev cX6_compels : ByteArray := prog_8_method_2_code
def yX6_compels : MethodName := ⟨RX6, "compels", "([III)Z"⟩
abbrev cX6_spread : ByteArray := prog_8_method_3_code
def yX6_spread : MethodName := ⟨RX6, "spread", "([II)V"⟩
abbrev cX6_reachForced : ByteArray := prog_8_method_4_code
def yX6_reachForced : MethodName := ⟨RX6, "reachForced", "([II)V"⟩
abbrev cX6_reach : ByteArray := prog_8_method_5_code
def yX6_reach : MethodName := ⟨RX6, "reach", "(II)V"⟩
def RX7 : String := "ArrowOrders$Reader"
def TX7 : u_T := fun k => match k with
  | 0 => ("ArrowOrders$Reader", "bytes", "[B", true)
  | 1 => ("ArrowOrders$Reader", "length", "I", false)
  | 2 => ("ArrowOrders$Reader", "fault", "I", false)
  | 3 => ("ArrowOrders$Reader", "faultAt", "I", false)
  | 4 => ("ArrowOrders$Reader", "told", "LArrowOrders$Net;", true)
  | 5 => ("ArrowOrders$Reader", "kinds", "[I", true)
  | 6 => ("ArrowOrders$Reader", "starts", "[I", true)
  | 7 => ("ArrowOrders$Reader", "values", "[J", true)
  | 8 => ("ArrowOrders$Reader", "tokens", "I", false)
  | 9 => ("ArrowOrders$Reader", "next", "I", false)
  | 10 => ("ArrowOrders$Reader", "names", "[J", true)
  | 11 => ("ArrowOrders$Reader", "places", "[I", true)
  | 12 => ("ArrowOrders$Reader", "sentence", "I", false)
  | 13 => ("ArrowOrders$Reader", "seen", "I", false)
  | _ => ("ArrowOrders$Reader", "placesTold", "I", false)
def tyX7 : Nat → FieldType := fun k => match k with
  | 0 => .array .byte
  | 1 => .int
  | 2 => .int
  | 3 => .int
  | 4 => .object "ArrowOrders$Net"
  | 5 => .array .int
  | 6 => .array .int
  | 7 => .array .long
  | 8 => .int
  | 9 => .int
  | 10 => .array .long
  | 11 => .array .int
  | 12 => .int
  | 13 => .int
  | _ => .int
abbrev wsX70 : List Cond := u_ws RX7 TX7 15
theorem nmX7 : ∀ a, a < 15 → ∀ b, b < 15 → a ≠ b → (TX7 a).2.1 ≠ (TX7 b).2.1 := by decide +kernel
theorem tyX7_ok : ∀ k, k < 15 → parseFieldDescriptor (TX7 k).2.2.1 = some (tyX7 k) := by decide +kernel
abbrev cX7_init : ByteArray := prog_9_method_1_code
def yX7_init : MethodName := ⟨RX7, "<init>", "()V"⟩
abbrev cX7_hasRoom : ByteArray := prog_9_method_2_code
def yX7_hasRoom : MethodName := ⟨RX7, "hasRoom", "()Z"⟩
abbrev cX7_addWord : ByteArray := prog_9_method_3_code
def yX7_addWord : MethodName := ⟨RX7, "addWord", "(I)V"⟩
abbrev cX7_readText : ByteArray := prog_9_method_4_code
def yX7_readText : MethodName := ⟨RX7, "readText", "()V"⟩
abbrev cX7_refuse : ByteArray := prog_9_method_5_code
def yX7_refuse : MethodName := ⟨RX7, "refuse", "(II)V"⟩
abbrev cX7_checkForm : ByteArray := prog_9_method_6_code
def yX7_checkForm : MethodName := ⟨RX7, "checkForm", "()V"⟩
abbrev cX7_keepToken : ByteArray := prog_9_method_7_code
def yX7_keepToken : MethodName := ⟨RX7, "keepToken", "(II)V"⟩
abbrev cX7_follow : ByteArray := prog_9_method_8_code
def yX7_follow : MethodName := ⟨RX7, "follow", "(II)I"⟩
abbrev cX7_skipBlanks : ByteArray := prog_9_method_9_code
def yX7_skipBlanks : MethodName := ⟨RX7, "skipBlanks", "()V"⟩
abbrev cX7_scan : ByteArray := prog_9_method_10_code
def yX7_scan : MethodName := ⟨RX7, "scan", "()I"⟩
abbrev cX7_wordKind : ByteArray := prog_9_method_11_code
def yX7_wordKind : MethodName := ⟨RX7, "wordKind", "(II)I"⟩
abbrev cX7_isWord : ByteArray := prog_9_method_12_code
def yX7_isWord : MethodName := ⟨RX7, "isWord", "(IILjava/lang/String;)Z"⟩
abbrev cX7_signAt : ByteArray := prog_9_method_13_code
def yX7_signAt : MethodName := ⟨RX7, "signAt", "(I)I"⟩
abbrev cX7_isBlankAt : ByteArray := prog_9_method_14_code
def yX7_isBlankAt : MethodName := ⟨RX7, "isBlankAt", "(I)Z"⟩
abbrev cX7_isLetterAt : ByteArray := prog_9_method_15_code
def yX7_isLetterAt : MethodName := ⟨RX7, "isLetterAt", "(I)Z"⟩
abbrev cX7_isDigitAt : ByteArray := prog_9_method_16_code
def yX7_isDigitAt : MethodName := ⟨RX7, "isDigitAt", "(I)Z"⟩
abbrev cX7_codeOf : ByteArray := prog_9_method_17_code
def yX7_codeOf : MethodName := ⟨RX7, "codeOf", "(II)J"⟩
abbrev cX7_numberOf : ByteArray := prog_9_method_18_code
def yX7_numberOf : MethodName := ⟨RX7, "numberOf", "(II)J"⟩
abbrev cX7_tell : ByteArray := prog_9_method_19_code
def yX7_tell : MethodName := ⟨RX7, "tell", "(IJI)V"⟩
abbrev cX7_postNamed : ByteArray := prog_9_method_20_code
def yX7_postNamed : MethodName := ⟨RX7, "postNamed", "(J)I"⟩
abbrev cX7_tellPost : ByteArray := prog_9_method_21_code
def yX7_tellPost : MethodName := ⟨RX7, "tellPost", "(JI)V"⟩
abbrev cX7_tellEnd : ByteArray := prog_9_method_22_code
def yX7_tellEnd : MethodName := ⟨RX7, "tellEnd", "(JI)V"⟩
abbrev cX7_tellPlace : ByteArray := prog_9_method_23_code
def yX7_tellPlace : MethodName := ⟨RX7, "tellPlace", "(II)V"⟩
def RX8 : String := "ArrowOrders$Sending"
def TX8 : u_T := fun k => match k with
  | _ => ("ArrowOrders$Sending", "image", "[I", true)
def tyX8 : Nat → FieldType := fun k => match k with
  | _ => .array .int
abbrev wsX80 : List Cond := u_ws RX8 TX8 1
theorem nmX8 : ∀ a, a < 1 → ∀ b, b < 1 → a ≠ b → (TX8 a).2.1 ≠ (TX8 b).2.1 := by decide +kernel
theorem tyX8_ok : ∀ k, k < 1 → parseFieldDescriptor (TX8 k).2.2.1 = some (tyX8 k) := by decide +kernel
abbrev cX8_init : ByteArray := prog_10_method_1_code
def yX8_init : MethodName := ⟨RX8, "<init>", "()V"⟩
abbrev cX8_ways : ByteArray := prog_10_method_2_code
def yX8_ways : MethodName := ⟨RX8, "ways", "(LArrowOrders$Net;LArrowOrders$Net;)I"⟩
abbrev cX8_waysToItself : ByteArray := prog_10_method_3_code
def yX8_waysToItself : MethodName := ⟨RX8, "waysToItself", "([II)I"⟩
abbrev cX8_fits : ByteArray := prog_10_method_4_code
def yX8_fits : MethodName := ⟨RX8, "fits", "([I[I[III)Z"⟩
abbrev cX8_canSend : ByteArray := prog_10_method_5_code
def yX8_canSend : MethodName := ⟨RX8, "canSend", "([I[I[IIII)Z"⟩
def RX9 : String := "ArrowOrders$Sets"
def TX9 : u_T := fun k => match k with
  | _ => ("", "", "", false)
def tyX9 : Nat → FieldType := fun k => match k with
  | _ => .int
abbrev wsX90 : List Cond := u_ws RX9 TX9 0
theorem nmX9 : ∀ a, a < 0 → ∀ b, b < 0 → a ≠ b → (TX9 a).2.1 ≠ (TX9 b).2.1 := by decide +kernel
theorem tyX9_ok : ∀ k, k < 0 → parseFieldDescriptor (TX9 k).2.2.1 = some (tyX9 k) := by decide +kernel
abbrev cX9_touched : ByteArray := prog_11_method_2_code
def yX9_touched : MethodName := ⟨RX9, "touched", "([II)I"⟩
abbrev cX9_isApart : ByteArray := prog_11_method_3_code
def yX9_isApart : MethodName := ⟨RX9, "isApart", "([II)Z"⟩
abbrev cX9_isAlike : ByteArray := prog_11_method_4_code
def yX9_isAlike : MethodName := ⟨RX9, "isAlike", "([III)Z"⟩
abbrev cX9_isRound : ByteArray := prog_11_method_5_code
def yX9_isRound : MethodName := ⟨RX9, "isRound", "([II)Z"⟩
abbrev cX9_parts : ByteArray := prog_11_method_6_code
def yX9_parts : MethodName := ⟨RX9, "parts", "([II)I"⟩
abbrev cX9_partOf : ByteArray := prog_11_method_7_code
def yX9_partOf : MethodName := ⟨RX9, "partOf", "([III)I"⟩
abbrev cX9_greatestApart : ByteArray := prog_11_method_8_code
def yX9_greatestApart : MethodName := ⟨RX9, "greatestApart", "([II)I"⟩
abbrev cX9_countApart : ByteArray := prog_11_method_9_code
def yX9_countApart : MethodName := ⟨RX9, "countApart", "([II)I"⟩
abbrev cX9_countAlike : ByteArray := prog_11_method_10_code
def yX9_countAlike : MethodName := ⟨RX9, "countAlike", "([II)I"⟩
abbrev cX9_countRounds : ByteArray := prog_11_method_11_code
def yX9_countRounds : MethodName := ⟨RX9, "countRounds", "([II)I"⟩
def RX10 : String := "ArrowOrders$Sharing"
def TX10 : u_T := fun k => match k with
  | 0 => ("ArrowOrders$Sharing", "groups", "[I", true)
  | 1 => ("ArrowOrders$Sharing", "groupOf", "[I", true)
  | _ => ("ArrowOrders$Sharing", "ways", "[I", true)
def tyX10 : Nat → FieldType := fun k => match k with
  | 0 => .array .int
  | 1 => .array .int
  | _ => .array .int
abbrev wsX100 : List Cond := u_ws RX10 TX10 3
theorem nmX10 : ∀ a, a < 3 → ∀ b, b < 3 → a ≠ b → (TX10 a).2.1 ≠ (TX10 b).2.1 := by decide +kernel
theorem tyX10_ok : ∀ k, k < 3 → parseFieldDescriptor (TX10 k).2.2.1 = some (tyX10 k) := by decide +kernel
abbrev cX10_init : ByteArray := prog_12_method_1_code
def yX10_init : MethodName := ⟨RX10, "<init>", "()V"⟩
abbrev cX10_share : ByteArray := prog_12_method_2_code
def yX10_share : MethodName := ⟨RX10, "share", "(LArrowOrders$Net;)I"⟩
abbrev cX10_groupOf : ByteArray := prog_12_method_3_code
def yX10_groupOf : MethodName := ⟨RX10, "groupOf", "(I)I"⟩
abbrev cX10_clearGroups : ByteArray := prog_12_method_4_code
def yX10_clearGroups : MethodName := ⟨RX10, "clearGroups", "()V"⟩
abbrev cX10_fill : ByteArray := prog_12_method_5_code
def yX10_fill : MethodName := ⟨RX10, "fill", "([I[I[IIII)Z"⟩
abbrev cX10_colourings : ByteArray := prog_12_method_6_code
def yX10_colourings : MethodName := ⟨RX10, "colourings", "(LArrowOrders$Net;I)I"⟩
abbrev cX10_part : ByteArray := prog_12_method_7_code
def yX10_part : MethodName := ⟨RX10, "part", "([I[I[IIII)V"⟩
def RX11 : String := "ArrowOrders"
def TX11 : u_T := fun k => match k with
  | 0 => ("ArrowOrders", "reader", "LArrowOrders$Reader;", true)
  | 1 => ("ArrowOrders", "net", "LArrowOrders$Net;", true)
  | 2 => ("ArrowOrders", "opposite", "LArrowOrders$Net;", true)
  | 3 => ("ArrowOrders", "past", "LArrowOrders$Past;", true)
  | 4 => ("ArrowOrders", "slots", "[LArrowOrders$Net;", true)
  | 5 => ("ArrowOrders", "held", "I", false)
  | 6 => ("ArrowOrders", "known", "Z", false)
  | 7 => ("ArrowOrders", "classes", "LArrowOrders$Classes;", true)
  | 8 => ("ArrowOrders", "oppositeClasses", "LArrowOrders$Classes;", true)
  | 9 => ("ArrowOrders", "arrowing", "LArrowOrders$Arrowing;", true)
  | 10 => ("ArrowOrders", "oppositeArrowing", "LArrowOrders$Arrowing;", true)
  | 11 => ("ArrowOrders", "ranks", "LArrowOrders$Ranks;", true)
  | 12 => ("ArrowOrders", "modules", "LArrowOrders$Modules;", true)
  | 13 => ("ArrowOrders", "sharing", "LArrowOrders$Sharing;", true)
  | _ => ("ArrowOrders", "sending", "LArrowOrders$Sending;", true)
def tyX11 : Nat → FieldType := fun k => match k with
  | 0 => .object "ArrowOrders$Reader"
  | 1 => .object "ArrowOrders$Net"
  | 2 => .object "ArrowOrders$Net"
  | 3 => .object "ArrowOrders$Past"
  | 4 => .array (.object "ArrowOrders$Net")
  | 5 => .int
  | 6 => .boolean
  | 7 => .object "ArrowOrders$Classes"
  | 8 => .object "ArrowOrders$Classes"
  | 9 => .object "ArrowOrders$Arrowing"
  | 10 => .object "ArrowOrders$Arrowing"
  | 11 => .object "ArrowOrders$Ranks"
  | 12 => .object "ArrowOrders$Modules"
  | 13 => .object "ArrowOrders$Sharing"
  | _ => .object "ArrowOrders$Sending"
abbrev wsX110 : List Cond := u_ws RX11 TX11 15
theorem nmX11 : ∀ a, a < 15 → ∀ b, b < 15 → a ≠ b → (TX11 a).2.1 ≠ (TX11 b).2.1 := by decide +kernel
theorem tyX11_ok : ∀ k, k < 15 → parseFieldDescriptor (TX11 k).2.2.1 = some (tyX11 k) := by decide +kernel
abbrev cX11_init : ByteArray := prog_1_method_1_code
def yX11_init : MethodName := ⟨RX11, "<init>", "()V"⟩
abbrev cX11_feed : ByteArray := prog_1_method_2_code
def yX11_feed : MethodName := ⟨RX11, "feed", "(IIIII)I"⟩
abbrev cX11_back : ByteArray := prog_1_method_3_code
def yX11_back : MethodName := ⟨RX11, "back", "(I)I"⟩
abbrev cX11_read : ByteArray := prog_1_method_4_code
def yX11_read : MethodName := ⟨RX11, "read", "()I"⟩
abbrev cX11_place : ByteArray := prog_1_method_5_code
def yX11_place : MethodName := ⟨RX11, "place", "()I"⟩
abbrev cX11_line : ByteArray := prog_1_method_6_code
def yX11_line : MethodName := ⟨RX11, "line", "(II)Z"⟩
abbrev cX11_other : ByteArray := prog_1_method_7_code
def yX11_other : MethodName := ⟨RX11, "other", "()I"⟩
abbrev cX11_exchange : ByteArray := prog_1_method_8_code
def yX11_exchange : MethodName := ⟨RX11, "exchange", "(II)Z"⟩
abbrev cX11_bare : ByteArray := prog_1_method_9_code
def yX11_bare : MethodName := ⟨RX11, "bare", "(I)I"⟩
abbrev cX11_begin : ByteArray := prog_1_method_10_code
def yX11_begin : MethodName := ⟨RX11, "begin", "()Z"⟩
abbrev cX11_undo : ByteArray := prog_1_method_11_code
def yX11_undo : MethodName := ⟨RX11, "undo", "()Z"⟩
abbrev cX11_of : ByteArray := prog_1_method_12_code
def yX11_of : MethodName := ⟨RX11, "of", "(II)I"⟩
abbrev cX11_far : ByteArray := prog_1_method_13_code
def yX11_far : MethodName := ⟨RX11, "far", "(II)I"⟩
abbrev cX11_near : ByteArray := prog_1_method_14_code
def yX11_near : MethodName := ⟨RX11, "near", "(I)I"⟩
abbrev cX11_forces : ByteArray := prog_1_method_15_code
def yX11_forces : MethodName := ⟨RX11, "forces", "(IIII)I"⟩
abbrev cX11_klass : ByteArray := prog_1_method_16_code
def yX11_klass : MethodName := ⟨RX11, "klass", "(III)I"⟩
abbrev cX11_walk : ByteArray := prog_1_method_17_code
def yX11_walk : MethodName := ⟨RX11, "walk", "(III)I"⟩
abbrev cX11_network : ByteArray := prog_1_method_18_code
def yX11_network : MethodName := ⟨RX11, "network", "(I)I"⟩
abbrev cX11_under : ByteArray := prog_1_method_19_code
def yX11_under : MethodName := ⟨RX11, "under", "(II)I"⟩
abbrev cX11_post : ByteArray := prog_1_method_20_code
def yX11_post : MethodName := ⟨RX11, "post", "(II)I"⟩
abbrev cX11_order : ByteArray := prog_1_method_21_code
def yX11_order : MethodName := ⟨RX11, "order", "(I)I"⟩
abbrev cX11_chain : ByteArray := prog_1_method_22_code
def yX11_chain : MethodName := ⟨RX11, "chain", "(I)I"⟩
abbrev cX11_straight : ByteArray := prog_1_method_23_code
def yX11_straight : MethodName := ⟨RX11, "straight", "(II)I"⟩
abbrev cX11_sign : ByteArray := prog_1_method_24_code
def yX11_sign : MethodName := ⟨RX11, "sign", "(II)I"⟩
abbrev cX11_colours : ByteArray := prog_1_method_25_code
def yX11_colours : MethodName := ⟨RX11, "colours", "(I)I"⟩
abbrev cX11_set : ByteArray := prog_1_method_26_code
def yX11_set : MethodName := ⟨RX11, "set", "(II)I"⟩
abbrev cX11_like : ByteArray := prog_1_method_27_code
def yX11_like : MethodName := ⟨RX11, "like", "(I)I"⟩
abbrev cX11_hold : ByteArray := prog_1_method_28_code
def yX11_hold : MethodName := ⟨RX11, "hold", "(I)Z"⟩
abbrev cX11_restore : ByteArray := prog_1_method_29_code
def yX11_restore : MethodName := ⟨RX11, "restore", "(I)Z"⟩
abbrev cX11_count : ByteArray := prog_1_method_30_code
def yX11_count : MethodName := ⟨RX11, "count", "(I)I"⟩
abbrev cX11_bit : ByteArray := prog_1_method_31_code
def yX11_bit : MethodName := ⟨RX11, "bit", "(Z)I"⟩
abbrev cX11_arrowFrom : ByteArray := prog_1_method_32_code
def yX11_arrowFrom : MethodName := ⟨RX11, "arrowFrom", "(II)I"⟩
abbrev cX11_against : ByteArray := prog_1_method_33_code
def yX11_against : MethodName := ⟨RX11, "against", "(I)I"⟩
abbrev cX11_contains : ByteArray := prog_1_method_34_code
def yX11_contains : MethodName := ⟨RX11, "contains", "(II)Z"⟩
abbrev cX11_isArrow : ByteArray := prog_1_method_35_code
def yX11_isArrow : MethodName := ⟨RX11, "isArrow", "([II)Z"⟩
abbrev cX11_beforeChange : ByteArray := prog_1_method_36_code
def yX11_beforeChange : MethodName := ⟨RX11, "beforeChange", "()V"⟩
abbrev cX11_heldIn : ByteArray := prog_1_method_37_code
def yX11_heldIn : MethodName := ⟨RX11, "heldIn", "(I)LArrowOrders$Net;"⟩
abbrev cX11_isCrossed : ByteArray := prog_1_method_38_code
def yX11_isCrossed : MethodName := ⟨RX11, "isCrossed", "()Z"⟩
abbrev cX11_study : ByteArray := prog_1_method_39_code
def yX11_study : MethodName := ⟨RX11, "study", "()V"⟩
abbrev cX11_crossedPlace : ByteArray := prog_1_method_40_code
def yX11_crossedPlace : MethodName := ⟨RX11, "crossedPlace", "(IZ)I"⟩
def RX12 : String := "ArrowOrdersModel"
def TX12 : u_T := fun k => match k with
  | 0 => ("ArrowOrdersModel", "thrown", "I", false)
  | 1 => ("ArrowOrdersModel", "tape", "[B", true)
  | 2 => ("ArrowOrdersModel", "taped", "I", false)
  | 3 => ("ArrowOrdersModel", "text", "[B", true)
  | 4 => ("ArrowOrdersModel", "size", "I", false)
  | 5 => ("ArrowOrdersModel", "tKind", "[I", true)
  | 6 => ("ArrowOrdersModel", "tPlace", "[I", true)
  | 7 => ("ArrowOrdersModel", "tValue", "[I", true)
  | 8 => ("ArrowOrdersModel", "tName", "[J", true)
  | 9 => ("ArrowOrdersModel", "keys", "[J", true)
  | 10 => ("ArrowOrdersModel", "tokens", "I", false)
  | 11 => ("ArrowOrdersModel", "t", "I", false)
  | 12 => ("ArrowOrdersModel", "fault", "I", false)
  | 13 => ("ArrowOrdersModel", "faultPlace", "I", false)
  | 14 => ("ArrowOrdersModel", "worst", "I", false)
  | 15 => ("ArrowOrdersModel", "worstPlace", "I", false)
  | 16 => ("ArrowOrdersModel", "place", "I", false)
  | 17 => ("ArrowOrdersModel", "n", "I", false)
  | 18 => ("ArrowOrdersModel", "now", "[I", true)
  | 19 => ("ArrowOrdersModel", "draft", "[I", true)
  | 20 => ("ArrowOrdersModel", "posts", "I", false)
  | 21 => ("ArrowOrdersModel", "postNames", "[J", true)
  | 22 => ("ArrowOrdersModel", "places", "[I", true)
  | 23 => ("ArrowOrdersModel", "earlier", "[I", true)
  | 24 => ("ArrowOrdersModel", "earliest", "I", false)
  | 25 => ("ArrowOrdersModel", "undos", "I", false)
  | 26 => ("ArrowOrdersModel", "held", "[I", true)
  | 27 => ("ArrowOrdersModel", "isHeld", "[Z", true)
  | 28 => ("ArrowOrdersModel", "against", "[I", true)
  | 29 => ("ArrowOrdersModel", "come", "[I", true)
  | 30 => ("ArrowOrdersModel", "farAway", "[I", true)
  | 31 => ("ArrowOrdersModel", "comeMany", "I", false)
  | 32 => ("ArrowOrdersModel", "classMany", "I", false)
  | 33 => ("ArrowOrdersModel", "oddMany", "I", false)
  | 34 => ("ArrowOrdersModel", "isIn", "[Z", true)
  | 35 => ("ArrowOrdersModel", "left", "[I", true)
  | 36 => ("ArrowOrdersModel", "goesTo", "[I", true)
  | 37 => ("ArrowOrdersModel", "comesFrom", "[I", true)
  | 38 => ("ArrowOrdersModel", "stepOf", "[I", true)
  | 39 => ("ArrowOrdersModel", "stepMany", "I", false)
  | 40 => ("ArrowOrdersModel", "wayFrom", "[I", true)
  | 41 => ("ArrowOrdersModel", "wayTo", "[I", true)
  | 42 => ("ArrowOrdersModel", "wayNow", "[I", true)
  | 43 => ("ArrowOrdersModel", "arrows", "[I", true)
  | 44 => ("ArrowOrdersModel", "farTo", "[I", true)
  | 45 => ("ArrowOrdersModel", "levelOf", "[I", true)
  | 46 => ("ArrowOrdersModel", "straight", "[I", true)
  | 47 => ("ArrowOrdersModel", "waysTo", "[I", true)
  | 48 => ("ArrowOrdersModel", "behind", "[I", true)
  | 49 => ("ArrowOrdersModel", "jumpsOf", "[I", true)
  | 50 => ("ArrowOrdersModel", "signOf", "[I", true)
  | 51 => ("ArrowOrdersModel", "coloured", "[I", true)
  | 52 => ("ArrowOrdersModel", "fewest", "[I", true)
  | 53 => ("ArrowOrdersModel", "chainOf", "[I", true)
  | 54 => ("ArrowOrdersModel", "chainSet", "[I", true)
  | 55 => ("ArrowOrdersModel", "sent", "[I", true)
  | _ => ("ArrowOrdersModel", "theirs", "[I", true)
def tyX12 : Nat → FieldType := fun k => match k with
  | 0 => .int
  | 1 => .array .byte
  | 2 => .int
  | 3 => .array .byte
  | 4 => .int
  | 5 => .array .int
  | 6 => .array .int
  | 7 => .array .int
  | 8 => .array .long
  | 9 => .array .long
  | 10 => .int
  | 11 => .int
  | 12 => .int
  | 13 => .int
  | 14 => .int
  | 15 => .int
  | 16 => .int
  | 17 => .int
  | 18 => .array .int
  | 19 => .array .int
  | 20 => .int
  | 21 => .array .long
  | 22 => .array .int
  | 23 => .array .int
  | 24 => .int
  | 25 => .int
  | 26 => .array .int
  | 27 => .array .boolean
  | 28 => .array .int
  | 29 => .array .int
  | 30 => .array .int
  | 31 => .int
  | 32 => .int
  | 33 => .int
  | 34 => .array .boolean
  | 35 => .array .int
  | 36 => .array .int
  | 37 => .array .int
  | 38 => .array .int
  | 39 => .int
  | 40 => .array .int
  | 41 => .array .int
  | 42 => .array .int
  | 43 => .array .int
  | 44 => .array .int
  | 45 => .array .int
  | 46 => .array .int
  | 47 => .array .int
  | 48 => .array .int
  | 49 => .array .int
  | 50 => .array .int
  | 51 => .array .int
  | 52 => .array .int
  | 53 => .array .int
  | 54 => .array .int
  | 55 => .array .int
  | _ => .array .int
abbrev wsX120 : List Cond := u_ws RX12 TX12 57
theorem nmX12 : ∀ a, a < 57 → ∀ b, b < 57 → a ≠ b → (TX12 a).2.1 ≠ (TX12 b).2.1 := by decide +kernel
theorem tyX12_ok : ∀ k, k < 57 → parseFieldDescriptor (TX12 k).2.2.1 = some (tyX12 k) := by decide +kernel
abbrev cX12_init : ByteArray := prog_14_method_2_code
def yX12_init : MethodName := ⟨RX12, "<init>", "()V"⟩
abbrev cX12_feed : ByteArray := prog_14_method_3_code
def yX12_feed : MethodName := ⟨RX12, "feed", "(IIIII)I"⟩
abbrev cX12_lays : ByteArray := prog_14_method_4_code
def yX12_lays : MethodName := ⟨RX12, "lays", "(I)V"⟩
abbrev cX12_back : ByteArray := prog_14_method_5_code
def yX12_back : MethodName := ⟨RX12, "back", "(I)I"⟩
abbrev cX12_byteAt : ByteArray := prog_14_method_6_code
def yX12_byteAt : MethodName := ⟨RX12, "byteAt", "(I)I"⟩
abbrev cX12_isDigit : ByteArray := prog_14_method_7_code
def yX12_isDigit : MethodName := ⟨RX12, "isDigit", "(I)Z"⟩
abbrev cX12_isLetter : ByteArray := prog_14_method_8_code
def yX12_isLetter : MethodName := ⟨RX12, "isLetter", "(I)Z"⟩
abbrev cX12_appends : ByteArray := prog_14_method_9_code
def yX12_appends : MethodName := ⟨RX12, "appends", "(JI)J"⟩
abbrev cX12_letters : ByteArray := prog_14_method_10_code
def yX12_letters : MethodName := ⟨RX12, "letters", "(IIIIIII)J"⟩
abbrev cX12_token : ByteArray := prog_14_method_11_code
def yX12_token : MethodName := ⟨RX12, "token", "(IIIJ)V"⟩
abbrev cX12_cutsText : ByteArray := prog_14_method_12_code
def yX12_cutsText : MethodName := ⟨RX12, "cutsText", "()V"⟩
abbrev cX12_signAt : ByteArray := prog_14_method_13_code
def yX12_signAt : MethodName := ⟨RX12, "signAt", "(II)I"⟩
abbrev cX12_is : ByteArray := prog_14_method_14_code
def yX12_is : MethodName := ⟨RX12, "is", "(I)Z"⟩
abbrev cX12_fail : ByteArray := prog_14_method_15_code
def yX12_fail : MethodName := ⟨RX12, "fail", "(I)V"⟩
abbrev cX12_wrong : ByteArray := prog_14_method_16_code
def yX12_wrong : MethodName := ⟨RX12, "wrong", "(II)V"⟩
abbrev cX12_passes : ByteArray := prog_14_method_17_code
def yX12_passes : MethodName := ⟨RX12, "passes", "()V"⟩
abbrev cX12_must : ByteArray := prog_14_method_18_code
def yX12_must : MethodName := ⟨RX12, "must", "(I)V"⟩
abbrev cX12_read : ByteArray := prog_14_method_19_code
def yX12_read : MethodName := ⟨RX12, "read", "()I"⟩
abbrev cX12_place : ByteArray := prog_14_method_20_code
def yX12_place : MethodName := ⟨RX12, "place", "()I"⟩
abbrev cX12_tellLine : ByteArray := prog_14_method_21_code
def yX12_tellLine : MethodName := ⟨RX12, "tellLine", "()V"⟩
abbrev cX12_postAt : ByteArray := prog_14_method_22_code
def yX12_postAt : MethodName := ⟨RX12, "postAt", "(J)I"⟩
abbrev cX12_means : ByteArray := prog_14_method_23_code
def yX12_means : MethodName := ⟨RX12, "means", "()V"⟩
abbrev cX12_joins : ByteArray := prog_14_method_24_code
def yX12_joins : MethodName := ⟨RX12, "joins", "([III)V"⟩
abbrev cX12_meansNames : ByteArray := prog_14_method_25_code
def yX12_meansNames : MethodName := ⟨RX12, "meansNames", "(I)V"⟩
abbrev cX12_meansCross : ByteArray := prog_14_method_26_code
def yX12_meansCross : MethodName := ⟨RX12, "meansCross", "(I)V"⟩
abbrev cX12_isToldAhead : ByteArray := prog_14_method_27_code
def yX12_isToldAhead : MethodName := ⟨RX12, "isToldAhead", "(II)Z"⟩
abbrev cX12_in : ByteArray := prog_14_method_28_code
def yX12_in : MethodName := ⟨RX12, "in", "(III)Z"⟩
abbrev cX12_has : ByteArray := prog_14_method_29_code
def yX12_has : MethodName := ⟨RX12, "has", "(II)Z"⟩
abbrev cX12_bitsOf : ByteArray := prog_14_method_30_code
def yX12_bitsOf : MethodName := ⟨RX12, "bitsOf", "(I)I"⟩
abbrev cX12_copies : ByteArray := prog_14_method_31_code
def yX12_copies : MethodName := ⟨RX12, "copies", "([I[I)V"⟩
abbrev cX12_isPost : ByteArray := prog_14_method_32_code
def yX12_isPost : MethodName := ⟨RX12, "isPost", "(I)Z"⟩
abbrev cX12_marks : ByteArray := prog_14_method_33_code
def yX12_marks : MethodName := ⟨RX12, "marks", "()V"⟩
abbrev cX12_undo : ByteArray := prog_14_method_34_code
def yX12_undo : MethodName := ⟨RX12, "undo", "()Z"⟩
abbrev cX12_hold : ByteArray := prog_14_method_35_code
def yX12_hold : MethodName := ⟨RX12, "hold", "(I)Z"⟩
abbrev cX12_restore : ByteArray := prog_14_method_36_code
def yX12_restore : MethodName := ⟨RX12, "restore", "(I)Z"⟩
abbrev cX12_line : ByteArray := prog_14_method_37_code
def yX12_line : MethodName := ⟨RX12, "line", "(II)Z"⟩
abbrev cX12_laysOther : ByteArray := prog_14_method_38_code
def yX12_laysOther : MethodName := ⟨RX12, "laysOther", "()V"⟩
abbrev cX12_other : ByteArray := prog_14_method_39_code
def yX12_other : MethodName := ⟨RX12, "other", "()I"⟩
abbrev cX12_exchange : ByteArray := prog_14_method_40_code
def yX12_exchange : MethodName := ⟨RX12, "exchange", "(II)Z"⟩
abbrev cX12_bare : ByteArray := prog_14_method_41_code
def yX12_bare : MethodName := ⟨RX12, "bare", "(I)I"⟩
abbrev cX12_begin : ByteArray := prog_14_method_42_code
def yX12_begin : MethodName := ⟨RX12, "begin", "()Z"⟩
abbrev cX12_lineMany : ByteArray := prog_14_method_43_code
def yX12_lineMany : MethodName := ⟨RX12, "lineMany", "()I"⟩
abbrev cX12_lineAt : ByteArray := prog_14_method_44_code
def yX12_lineAt : MethodName := ⟨RX12, "lineAt", "(II)I"⟩
abbrev cX12_arrowAt : ByteArray := prog_14_method_45_code
def yX12_arrowAt : MethodName := ⟨RX12, "arrowAt", "(I)I"⟩
abbrev cX12_near : ByteArray := prog_14_method_46_code
def yX12_near : MethodName := ⟨RX12, "near", "(I)I"⟩
abbrev cX12_isArrow : ByteArray := prog_14_method_47_code
def yX12_isArrow : MethodName := ⟨RX12, "isArrow", "([III)Z"⟩
abbrev cX12_forcesIt : ByteArray := prog_14_method_48_code
def yX12_forcesIt : MethodName := ⟨RX12, "forcesIt", "([III)Z"⟩
abbrev cX12_forces : ByteArray := prog_14_method_49_code
def yX12_forces : MethodName := ⟨RX12, "forces", "(IIII)I"⟩
abbrev cX12_laysClass : ByteArray := prog_14_method_50_code
def yX12_laysClass : MethodName := ⟨RX12, "laysClass", "([II)V"⟩
abbrev cX12_turned : ByteArray := prog_14_method_51_code
def yX12_turned : MethodName := ⟨RX12, "turned", "(I)I"⟩
abbrev cX12_isOdd : ByteArray := prog_14_method_52_code
def yX12_isOdd : MethodName := ⟨RX12, "isOdd", "()Z"⟩
abbrev cX12_laysClasses : ByteArray := prog_14_method_53_code
def yX12_laysClasses : MethodName := ⟨RX12, "laysClasses", "([I)V"⟩
abbrev cX12_isOrdered : ByteArray := prog_14_method_54_code
def yX12_isOrdered : MethodName := ⟨RX12, "isOrdered", "([I)Z"⟩
abbrev cX12_klass : ByteArray := prog_14_method_55_code
def yX12_klass : MethodName := ⟨RX12, "klass", "(III)I"⟩
abbrev cX12_walk : ByteArray := prog_14_method_56_code
def yX12_walk : MethodName := ⟨RX12, "walk", "(III)I"⟩
abbrev cX12_laysArrows : ByteArray := prog_14_method_57_code
def yX12_laysArrows : MethodName := ⟨RX12, "laysArrows", "([IZ)V"⟩
abbrev cX12_leastLeft : ByteArray := prog_14_method_58_code
def yX12_leastLeft : MethodName := ⟨RX12, "leastLeft", "()I"⟩
abbrev cX12_isArrowed : ByteArray := prog_14_method_59_code
def yX12_isArrowed : MethodName := ⟨RX12, "isArrowed", "()Z"⟩
abbrev cX12_of : ByteArray := prog_14_method_60_code
def yX12_of : MethodName := ⟨RX12, "of", "(II)I"⟩
abbrev cX12_under : ByteArray := prog_14_method_61_code
def yX12_under : MethodName := ⟨RX12, "under", "(II)I"⟩
abbrev cX12_ways : ByteArray := prog_14_method_62_code
def yX12_ways : MethodName := ⟨RX12, "ways", "()I"⟩
abbrev cX12_fromOf : ByteArray := prog_14_method_63_code
def yX12_fromOf : MethodName := ⟨RX12, "fromOf", "(I)I"⟩
abbrev cX12_toOf : ByteArray := prog_14_method_64_code
def yX12_toOf : MethodName := ⟨RX12, "toOf", "(I)I"⟩
abbrev cX12_putsOn : ByteArray := prog_14_method_65_code
def yX12_putsOn : MethodName := ⟨RX12, "putsOn", "(I)V"⟩
abbrev cX12_takesOff : ByteArray := prog_14_method_66_code
def yX12_takesOff : MethodName := ⟨RX12, "takesOff", "(I)V"⟩
abbrev cX12_agrees : ByteArray := prog_14_method_67_code
def yX12_agrees : MethodName := ⟨RX12, "agrees", "(I)Z"⟩
abbrev cX12_isCrossed : ByteArray := prog_14_method_68_code
def yX12_isCrossed : MethodName := ⟨RX12, "isCrossed", "()Z"⟩
abbrev cX12_laysFar : ByteArray := prog_14_method_69_code
def yX12_laysFar : MethodName := ⟨RX12, "laysFar", "(I)V"⟩
abbrev cX12_far : ByteArray := prog_14_method_70_code
def yX12_far : MethodName := ⟨RX12, "far", "(II)I"⟩
abbrev cX12_partMany : ByteArray := prog_14_method_71_code
def yX12_partMany : MethodName := ⟨RX12, "partMany", "()I"⟩
abbrev cX12_network : ByteArray := prog_14_method_72_code
def yX12_network : MethodName := ⟨RX12, "network", "(I)I"⟩
abbrev cX12_greatestLevel : ByteArray := prog_14_method_73_code
def yX12_greatestLevel : MethodName := ⟨RX12, "greatestLevel", "()I"⟩
abbrev cX12_coversOf : ByteArray := prog_14_method_74_code
def yX12_coversOf : MethodName := ⟨RX12, "coversOf", "(I)I"⟩
abbrev cX12_coverMany : ByteArray := prog_14_method_75_code
def yX12_coverMany : MethodName := ⟨RX12, "coverMany", "()I"⟩
abbrev cX12_straights : ByteArray := prog_14_method_76_code
def yX12_straights : MethodName := ⟨RX12, "straights", "()I"⟩
abbrev cX12_laysStraight : ByteArray := prog_14_method_77_code
def yX12_laysStraight : MethodName := ⟨RX12, "laysStraight", "()V"⟩
abbrev cX12_crossedPlace : ByteArray := prog_14_method_78_code
def yX12_crossedPlace : MethodName := ⟨RX12, "crossedPlace", "(IZ)I"⟩
abbrev cX12_post : ByteArray := prog_14_method_79_code
def yX12_post : MethodName := ⟨RX12, "post", "(II)I"⟩
abbrev cX12_straight : ByteArray := prog_14_method_80_code
def yX12_straight : MethodName := ⟨RX12, "straight", "(II)I"⟩
abbrev cX12_waysBehind : ByteArray := prog_14_method_81_code
def yX12_waysBehind : MethodName := ⟨RX12, "waysBehind", "(I)I"⟩
abbrev cX12_downMany : ByteArray := prog_14_method_82_code
def yX12_downMany : MethodName := ⟨RX12, "downMany", "()I"⟩
abbrev cX12_fewestJumps : ByteArray := prog_14_method_83_code
def yX12_fewestJumps : MethodName := ⟨RX12, "fewestJumps", "()I"⟩
abbrev cX12_jumpsTo : ByteArray := prog_14_method_84_code
def yX12_jumpsTo : MethodName := ⟨RX12, "jumpsTo", "(II)I"⟩
abbrev cX12_sign : ByteArray := prog_14_method_85_code
def yX12_sign : MethodName := ⟨RX12, "sign", "(II)I"⟩
abbrev cX12_colours : ByteArray := prog_14_method_86_code
def yX12_colours : MethodName := ⟨RX12, "colours", "(I)I"⟩
abbrev cX12_isChain : ByteArray := prog_14_method_87_code
def yX12_isChain : MethodName := ⟨RX12, "isChain", "(I)Z"⟩
abbrev cX12_isApart : ByteArray := prog_14_method_88_code
def yX12_isApart : MethodName := ⟨RX12, "isApart", "(I)Z"⟩
abbrev cX12_isAlike : ByteArray := prog_14_method_89_code
def yX12_isAlike : MethodName := ⟨RX12, "isAlike", "(I)Z"⟩
abbrev cX12_isRound : ByteArray := prog_14_method_90_code
def yX12_isRound : MethodName := ⟨RX12, "isRound", "(I)Z"⟩
abbrev cX12_isSuch : ByteArray := prog_14_method_91_code
def yX12_isSuch : MethodName := ⟨RX12, "isSuch", "(II)Z"⟩
abbrev cX12_set : ByteArray := prog_14_method_92_code
def yX12_set : MethodName := ⟨RX12, "set", "(II)I"⟩
abbrev cX12_suchMany : ByteArray := prog_14_method_93_code
def yX12_suchMany : MethodName := ⟨RX12, "suchMany", "(I)I"⟩
abbrev cX12_greatestSet : ByteArray := prog_14_method_94_code
def yX12_greatestSet : MethodName := ⟨RX12, "greatestSet", "(I)I"⟩
abbrev cX12_fewestChains : ByteArray := prog_14_method_95_code
def yX12_fewestChains : MethodName := ⟨RX12, "fewestChains", "()I"⟩
abbrev cX12_order : ByteArray := prog_14_method_96_code
def yX12_order : MethodName := ⟨RX12, "order", "(I)I"⟩
abbrev cX12_laysChains : ByteArray := prog_14_method_97_code
def yX12_laysChains : MethodName := ⟨RX12, "laysChains", "(I)V"⟩
abbrev cX12_chain : ByteArray := prog_14_method_98_code
def yX12_chain : MethodName := ⟨RX12, "chain", "(I)I"⟩
abbrev cX12_fitsAt : ByteArray := prog_14_method_99_code
def yX12_fitsAt : MethodName := ⟨RX12, "fitsAt", "(I)Z"⟩
abbrev cX12_likes : ByteArray := prog_14_method_100_code
def yX12_likes : MethodName := ⟨RX12, "likes", "()I"⟩
abbrev cX12_like : ByteArray := prog_14_method_101_code
def yX12_like : MethodName := ⟨RX12, "like", "(I)I"⟩
abbrev cX12_likeItself : ByteArray := prog_14_method_102_code
def yX12_likeItself : MethodName := ⟨RX12, "likeItself", "()I"⟩
abbrev cX12_count : ByteArray := prog_14_method_103_code
def yX12_count : MethodName := ⟨RX12, "count", "(I)I"⟩
def RJ6 : String := "java/lang/Integer"
def TJ6 : u_T := fun k => match k with
  | _ => ("", "", "", false)
def tyJ6 : Nat → FieldType := fun k => match k with
  | _ => .int
abbrev wsJ60 : List Cond := u_ws RJ6 TJ6 0
theorem nmJ6 : ∀ a, a < 0 → ∀ b, b < 0 → a ≠ b → (TJ6 a).2.1 ≠ (TJ6 b).2.1 := by decide +kernel
theorem tyJ6_ok : ∀ k, k < 0 → parseFieldDescriptor (TJ6 k).2.2.1 = some (tyJ6 k) := by decide +kernel
abbrev cJ6_bitCount_0f7a4 : ByteArray := prog_15_method_49_code
def yJ6_bitCount_0f7a4 : MethodName := ⟨RJ6, "bitCount", "(I)I"⟩
def RJ9 : String := "java/lang/Math"
def TJ9 : u_T := fun k => match k with
  | _ => ("", "", "", false)
def tyJ9 : Nat → FieldType := fun k => match k with
  | _ => .int
abbrev wsJ90 : List Cond := u_ws RJ9 TJ9 0
theorem nmJ9 : ∀ a, a < 0 → ∀ b, b < 0 → a ≠ b → (TJ9 a).2.1 ≠ (TJ9 b).2.1 := by decide +kernel
theorem tyJ9_ok : ∀ k, k < 0 → parseFieldDescriptor (TJ9 k).2.2.1 = some (tyJ9 k) := by decide +kernel
abbrev cJ9_max_7cf53 : ByteArray := prog_16_method_65_code
def yJ9_max_7cf53 : MethodName := ⟨RJ9, "max", "(II)I"⟩
abbrev cJ9_min_7cf53 : ByteArray := prog_16_method_69_code
def yJ9_min_7cf53 : MethodName := ⟨RJ9, "min", "(II)I"⟩
def RJ0 : String := "java/lang/String"
def TJ0 : u_T := fun k => match k with
  | _ => ("", "", "", false)
def tyJ0 : Nat → FieldType := fun k => match k with
  | _ => .int
abbrev wsJ00 : List Cond := u_ws RJ0 TJ0 0
theorem nmJ0 : ∀ a, a < 0 → ∀ b, b < 0 → a ≠ b → (TJ0 a).2.1 ≠ (TJ0 b).2.1 := by decide +kernel
theorem tyJ0_ok : ∀ k, k < 0 → parseFieldDescriptor (TJ0 k).2.2.1 = some (tyJ0 k) := by decide +kernel
abbrev cJ0_length_8abf5 : ByteArray := prog_17_method_54_code
def yJ0_length_8abf5 : MethodName := ⟨RJ0, "length", "()I"⟩
abbrev cJ0_charAt_5068e : ByteArray := prog_17_method_56_code
def yJ0_charAt_5068e : MethodName := ⟨RJ0, "charAt", "(I)C"⟩
abbrev cJ0_coder_7d493 : ByteArray := prog_17_method_152_code
def yJ0_coder_7d493 : MethodName := ⟨RJ0, "coder", "()B"⟩
abbrev cJ0_isLatin1_aae02 : ByteArray := prog_17_method_154_code
def yJ0_isLatin1_aae02 : MethodName := ⟨RJ0, "isLatin1", "()Z"⟩
abbrev cJ0_checkIndex_df160 : ByteArray := prog_17_method_155_code
def yJ0_checkIndex_df160 : MethodName := ⟨RJ0, "checkIndex", "(II)V"⟩
def RJ1 : String := "java/lang/StringLatin1"
def TJ1 : u_T := fun k => match k with
  | _ => ("", "", "", false)
def tyJ1 : Nat → FieldType := fun k => match k with
  | _ => .int
abbrev wsJ10 : List Cond := u_ws RJ1 TJ1 0
theorem nmJ1 : ∀ a, a < 0 → ∀ b, b < 0 → a ≠ b → (TJ1 a).2.1 ≠ (TJ1 b).2.1 := by decide +kernel
theorem tyJ1_ok : ∀ k, k < 0 → parseFieldDescriptor (TJ1 k).2.2.1 = some (tyJ1 k) := by decide +kernel
abbrev cJ1_charAt_3b067 : ByteArray := prog_18_method_2_code
def yJ1_charAt_3b067 : MethodName := ⟨RJ1, "charAt", "([BI)C"⟩
def RJ2 : String := "java/lang/StringUTF16"
def TJ2 : u_T := fun k => match k with
  | _ => ("", "", "", false)
def tyJ2 : Nat → FieldType := fun k => match k with
  | _ => .int
abbrev wsJ20 : List Cond := u_ws RJ2 TJ2 0
theorem nmJ2 : ∀ a, a < 0 → ∀ b, b < 0 → a ≠ b → (TJ2 a).2.1 ≠ (TJ2 b).2.1 := by decide +kernel
theorem tyJ2_ok : ∀ k, k < 0 → parseFieldDescriptor (TJ2 k).2.2.1 = some (tyJ2 k) := by decide +kernel
abbrev cJ2_getChar_3b067 : ByteArray := prog_19_method_5_code
def yJ2_getChar_3b067 : MethodName := ⟨RJ2, "getChar", "([BI)C"⟩
abbrev cJ2_length_9d52b : ByteArray := prog_19_method_6_code
def yJ2_length_9d52b : MethodName := ⟨RJ2, "length", "([B)I"⟩
abbrev cJ2_charAt_3b067 : ByteArray := prog_19_method_83_code
def yJ2_charAt_3b067 : MethodName := ⟨RJ2, "charAt", "([BI)C"⟩
abbrev cJ2_checkIndex_2214a : ByteArray := prog_19_method_91_code
def yJ2_checkIndex_2214a : MethodName := ⟨RJ2, "checkIndex", "(I[B)V"⟩
def RJ3 : String := "jdk/internal/util/Preconditions"
def TJ3 : u_T := fun k => match k with
  | _ => ("", "", "", false)
def tyJ3 : Nat → FieldType := fun k => match k with
  | _ => .int
abbrev wsJ30 : List Cond := u_ws RJ3 TJ3 0
theorem nmJ3 : ∀ a, a < 0 → ∀ b, b < 0 → a ≠ b → (TJ3 a).2.1 ≠ (TJ3 b).2.1 := by decide +kernel
theorem tyJ3_ok : ∀ k, k < 0 → parseFieldDescriptor (TJ3 k).2.2.1 = some (tyJ3 k) := by decide +kernel
abbrev cJ3_checkIndex_8e157 : ByteArray := prog_20_method_11_code
def yJ3_checkIndex_8e157 : MethodName := ⟨RJ3, "checkIndex", "(IILjava/util/function/BiFunction;)I"⟩
def RL : String := "ArrowOrdersLaw"
abbrev cL_law : ByteArray := code
def yL_law : MethodName := ⟨RL, "law", "([I)Z"⟩
