section
-- ===== PART A: goes FIRST, ahead of the names: the tables' words, and 'selects' of the private methods out of them =====
/-- a private method of a class that the tables say can be made, by its rows of tables_1 -/
def lw_okq (q : MethodName × Nat) : Prop := (q.1.cls ≠ "java/lang/invoke/MethodHandle" ∧ q.1.cls ≠ "java/lang/invoke/VarHandle") ∧ Cond.instantiable q.1.cls q.2 ∈ tables_1 ∧ Cond.privateMethod q.1 ∈ tables_1 ∧ Cond.instanceMethod q.1 ∈ tables_1
theorem lw_p0 : lw_okq (⟨"ArmpitLine$Tape", "cutWord", "(I)I"⟩, 6) := ⟨⟨by decide +kernel, by decide +kernel⟩, List.mem_of_getElem? (i := 221) (by decide +kernel), List.mem_of_getElem? (i := 418) (by decide +kernel), List.mem_of_getElem? (i := 419) (by decide +kernel)⟩
theorem lw_p1 : lw_okq (⟨"ArmpitLine$Tape", "wordAmong", "(II)I"⟩, 6) := ⟨⟨by decide +kernel, by decide +kernel⟩, List.mem_of_getElem? (i := 221) (by decide +kernel), List.mem_of_getElem? (i := 422) (by decide +kernel), List.mem_of_getElem? (i := 423) (by decide +kernel)⟩
theorem lw_p2 : lw_okq (⟨"ArmpitLine$Tape", "note", "(III)V"⟩, 6) := ⟨⟨by decide +kernel, by decide +kernel⟩, List.mem_of_getElem? (i := 221) (by decide +kernel), List.mem_of_getElem? (i := 428) (by decide +kernel), List.mem_of_getElem? (i := 429) (by decide +kernel)⟩
theorem lw_p3 : lw_okq (⟨"ArmpitLine$Tape", "cutNumber", "(I)I"⟩, 6) := ⟨⟨by decide +kernel, by decide +kernel⟩, List.mem_of_getElem? (i := 221) (by decide +kernel), List.mem_of_getElem? (i := 435) (by decide +kernel), List.mem_of_getElem? (i := 436) (by decide +kernel)⟩
theorem lw_p4 : lw_okq (⟨"ArmpitLine$Reader", "readKeys", "()Z"⟩, 5) := ⟨⟨by decide +kernel, by decide +kernel⟩, List.mem_of_getElem? (i := 215) (by decide +kernel), List.mem_of_getElem? (i := 442) (by decide +kernel), List.mem_of_getElem? (i := 443) (by decide +kernel)⟩
theorem lw_p5 : lw_okq (⟨"ArmpitLine$Reader", "pass", "(I)Z"⟩, 5) := ⟨⟨by decide +kernel, by decide +kernel⟩, List.mem_of_getElem? (i := 215) (by decide +kernel), List.mem_of_getElem? (i := 446) (by decide +kernel), List.mem_of_getElem? (i := 447) (by decide +kernel)⟩
theorem lw_p6 : lw_okq (⟨"ArmpitLine$Reader", "kindNow", "()I"⟩, 5) := ⟨⟨by decide +kernel, by decide +kernel⟩, List.mem_of_getElem? (i := 215) (by decide +kernel), List.mem_of_getElem? (i := 450) (by decide +kernel), List.mem_of_getElem? (i := 451) (by decide +kernel)⟩
theorem lw_p7 : lw_okq (⟨"ArmpitLine$Reader", "readOr", "(I)Z"⟩, 5) := ⟨⟨by decide +kernel, by decide +kernel⟩, List.mem_of_getElem? (i := 215) (by decide +kernel), List.mem_of_getElem? (i := 454) (by decide +kernel), List.mem_of_getElem? (i := 455) (by decide +kernel)⟩
theorem lw_p8 : lw_okq (⟨"ArmpitLine$Reader", "readAnd", "(I)Z"⟩, 5) := ⟨⟨by decide +kernel, by decide +kernel⟩, List.mem_of_getElem? (i := 215) (by decide +kernel), List.mem_of_getElem? (i := 458) (by decide +kernel), List.mem_of_getElem? (i := 459) (by decide +kernel)⟩
theorem lw_p9 : lw_okq (⟨"ArmpitLine$Reader", "readNot", "(I)Z"⟩, 5) := ⟨⟨by decide +kernel, by decide +kernel⟩, List.mem_of_getElem? (i := 215) (by decide +kernel), List.mem_of_getElem? (i := 462) (by decide +kernel), List.mem_of_getElem? (i := 463) (by decide +kernel)⟩
theorem lw_p10 : lw_okq (⟨"ArmpitLine$Reader", "emit", "(I)V"⟩, 5) := ⟨⟨by decide +kernel, by decide +kernel⟩, List.mem_of_getElem? (i := 215) (by decide +kernel), List.mem_of_getElem? (i := 466) (by decide +kernel), List.mem_of_getElem? (i := 467) (by decide +kernel)⟩
theorem lw_p11 : lw_okq (⟨"ArmpitLine$Reader", "readSum", "(I)Z"⟩, 5) := ⟨⟨by decide +kernel, by decide +kernel⟩, List.mem_of_getElem? (i := 215) (by decide +kernel), List.mem_of_getElem? (i := 470) (by decide +kernel), List.mem_of_getElem? (i := 471) (by decide +kernel)⟩
theorem lw_p12 : lw_okq (⟨"ArmpitLine$Reader", "readTerm", "(I)Z"⟩, 5) := ⟨⟨by decide +kernel, by decide +kernel⟩, List.mem_of_getElem? (i := 215) (by decide +kernel), List.mem_of_getElem? (i := 474) (by decide +kernel), List.mem_of_getElem? (i := 475) (by decide +kernel)⟩
theorem lw_p13 : lw_okq (⟨"ArmpitLine$Reader", "readOne", "(I)Z"⟩, 5) := ⟨⟨by decide +kernel, by decide +kernel⟩, List.mem_of_getElem? (i := 215) (by decide +kernel), List.mem_of_getElem? (i := 478) (by decide +kernel), List.mem_of_getElem? (i := 479) (by decide +kernel)⟩
theorem lw_p14 : lw_okq (⟨"ArmpitLine$League", "score", "(III)V"⟩, 8) := ⟨⟨by decide +kernel, by decide +kernel⟩, List.mem_of_getElem? (i := 271) (by decide +kernel), List.mem_of_getElem? (i := 843) (by decide +kernel), List.mem_of_getElem? (i := 844) (by decide +kernel)⟩
theorem lw_p15 : lw_okq (⟨"ArmpitLine$League", "isAbove", "(II)Z"⟩, 8) := ⟨⟨by decide +kernel, by decide +kernel⟩, List.mem_of_getElem? (i := 271) (by decide +kernel), List.mem_of_getElem? (i := 851) (by decide +kernel), List.mem_of_getElem? (i := 852) (by decide +kernel)⟩
def lw_privs_1 : List (MethodName × Nat) := [(⟨"ArmpitLine$Tape", "cutWord", "(I)I"⟩, 6), (⟨"ArmpitLine$Tape", "wordAmong", "(II)I"⟩, 6), (⟨"ArmpitLine$Tape", "note", "(III)V"⟩, 6), (⟨"ArmpitLine$Tape", "cutNumber", "(I)I"⟩, 6), (⟨"ArmpitLine$Reader", "readKeys", "()Z"⟩, 5), (⟨"ArmpitLine$Reader", "pass", "(I)Z"⟩, 5), (⟨"ArmpitLine$Reader", "kindNow", "()I"⟩, 5), (⟨"ArmpitLine$Reader", "readOr", "(I)Z"⟩, 5), (⟨"ArmpitLine$Reader", "readAnd", "(I)Z"⟩, 5), (⟨"ArmpitLine$Reader", "readNot", "(I)Z"⟩, 5), (⟨"ArmpitLine$Reader", "emit", "(I)V"⟩, 5), (⟨"ArmpitLine$Reader", "readSum", "(I)Z"⟩, 5), (⟨"ArmpitLine$Reader", "readTerm", "(I)Z"⟩, 5), (⟨"ArmpitLine$Reader", "readOne", "(I)Z"⟩, 5), (⟨"ArmpitLine$League", "score", "(III)V"⟩, 8), (⟨"ArmpitLine$League", "isAbove", "(II)Z"⟩, 8)]
theorem lw_r1 : ∀ q ∈ lw_privs_1, lw_okq q := List.forall_mem_cons.mpr ⟨lw_p0, List.forall_mem_cons.mpr ⟨lw_p1, List.forall_mem_cons.mpr ⟨lw_p2, List.forall_mem_cons.mpr ⟨lw_p3, List.forall_mem_cons.mpr ⟨lw_p4, List.forall_mem_cons.mpr ⟨lw_p5, List.forall_mem_cons.mpr ⟨lw_p6, List.forall_mem_cons.mpr ⟨lw_p7, List.forall_mem_cons.mpr ⟨lw_p8, List.forall_mem_cons.mpr ⟨lw_p9, List.forall_mem_cons.mpr ⟨lw_p10, List.forall_mem_cons.mpr ⟨lw_p11, List.forall_mem_cons.mpr ⟨lw_p12, List.forall_mem_cons.mpr ⟨lw_p13, List.forall_mem_cons.mpr ⟨lw_p14, List.forall_mem_cons.mpr ⟨lw_p15, fun _ h => absurd h List.not_mem_nil⟩⟩⟩⟩⟩⟩⟩⟩⟩⟩⟩⟩⟩⟩⟩⟩
theorem lw_p16 : lw_okq (⟨"ArmpitLine$Cases", "isSplitBy", "(I)Z"⟩, 4) := ⟨⟨by decide +kernel, by decide +kernel⟩, List.mem_of_getElem? (i := 306) (by decide +kernel), List.mem_of_getElem? (i := 888) (by decide +kernel), List.mem_of_getElem? (i := 889) (by decide +kernel)⟩
theorem lw_p17 : lw_okq (⟨"ArmpitLineModel", "spell", "(IJ)V"⟩, 63) := ⟨⟨by decide +kernel, by decide +kernel⟩, List.mem_of_getElem? (i := 945) (by decide +kernel), List.mem_of_getElem? (i := 952) (by decide +kernel), List.mem_of_getElem? (i := 953) (by decide +kernel)⟩
theorem lw_p18 : lw_okq (⟨"ArmpitLineModel", "isMan", "(I)Z"⟩, 63) := ⟨⟨by decide +kernel, by decide +kernel⟩, List.mem_of_getElem? (i := 945) (by decide +kernel), List.mem_of_getElem? (i := 1167) (by decide +kernel), List.mem_of_getElem? (i := 1168) (by decide +kernel)⟩
theorem lw_p19 : lw_okq (⟨"ArmpitLineModel", "read", "(IIIII)I"⟩, 63) := ⟨⟨by decide +kernel, by decide +kernel⟩, List.mem_of_getElem? (i := 945) (by decide +kernel), List.mem_of_getElem? (i := 1186) (by decide +kernel), List.mem_of_getElem? (i := 1187) (by decide +kernel)⟩
theorem lw_p20 : lw_okq (⟨"ArmpitLineModel", "next", "()V"⟩, 63) := ⟨⟨by decide +kernel, by decide +kernel⟩, List.mem_of_getElem? (i := 945) (by decide +kernel), List.mem_of_getElem? (i := 1190) (by decide +kernel), List.mem_of_getElem? (i := 1191) (by decide +kernel)⟩
theorem lw_p21 : lw_okq (⟨"ArmpitLineModel", "byteAt", "(I)I"⟩, 63) := ⟨⟨by decide +kernel, by decide +kernel⟩, List.mem_of_getElem? (i := 945) (by decide +kernel), List.mem_of_getElem? (i := 1194) (by decide +kernel), List.mem_of_getElem? (i := 1195) (by decide +kernel)⟩
theorem lw_p22 : lw_okq (⟨"ArmpitLineModel", "section", "(J)I"⟩, 63) := ⟨⟨by decide +kernel, by decide +kernel⟩, List.mem_of_getElem? (i := 945) (by decide +kernel), List.mem_of_getElem? (i := 1207) (by decide +kernel), List.mem_of_getElem? (i := 1208) (by decide +kernel)⟩
theorem lw_p23 : lw_okq (⟨"ArmpitLineModel", "isWord", "(J)Z"⟩, 63) := ⟨⟨by decide +kernel, by decide +kernel⟩, List.mem_of_getElem? (i := 945) (by decide +kernel), List.mem_of_getElem? (i := 1211) (by decide +kernel), List.mem_of_getElem? (i := 1212) (by decide +kernel)⟩
theorem lw_p24 : lw_okq (⟨"ArmpitLineModel", "fail", "()V"⟩, 63) := ⟨⟨by decide +kernel, by decide +kernel⟩, List.mem_of_getElem? (i := 945) (by decide +kernel), List.mem_of_getElem? (i := 1215) (by decide +kernel), List.mem_of_getElem? (i := 1216) (by decide +kernel)⟩
theorem lw_p25 : lw_okq (⟨"ArmpitLineModel", "either", "()I"⟩, 63) := ⟨⟨by decide +kernel, by decide +kernel⟩, List.mem_of_getElem? (i := 945) (by decide +kernel), List.mem_of_getElem? (i := 1219) (by decide +kernel), List.mem_of_getElem? (i := 1220) (by decide +kernel)⟩
theorem lw_p26 : lw_okq (⟨"ArmpitLineModel", "both", "()I"⟩, 63) := ⟨⟨by decide +kernel, by decide +kernel⟩, List.mem_of_getElem? (i := 945) (by decide +kernel), List.mem_of_getElem? (i := 1223) (by decide +kernel), List.mem_of_getElem? (i := 1224) (by decide +kernel)⟩
theorem lw_p27 : lw_okq (⟨"ArmpitLineModel", "not", "()I"⟩, 63) := ⟨⟨by decide +kernel, by decide +kernel⟩, List.mem_of_getElem? (i := 945) (by decide +kernel), List.mem_of_getElem? (i := 1227) (by decide +kernel), List.mem_of_getElem? (i := 1228) (by decide +kernel)⟩
theorem lw_p28 : lw_okq (⟨"ArmpitLineModel", "opens", "()Z"⟩, 63) := ⟨⟨by decide +kernel, by decide +kernel⟩, List.mem_of_getElem? (i := 945) (by decide +kernel), List.mem_of_getElem? (i := 1232) (by decide +kernel), List.mem_of_getElem? (i := 1233) (by decide +kernel)⟩
theorem lw_p29 : lw_okq (⟨"ArmpitLineModel", "added", "()I"⟩, 63) := ⟨⟨by decide +kernel, by decide +kernel⟩, List.mem_of_getElem? (i := 945) (by decide +kernel), List.mem_of_getElem? (i := 1236) (by decide +kernel), List.mem_of_getElem? (i := 1237) (by decide +kernel)⟩
theorem lw_p30 : lw_okq (⟨"ArmpitLineModel", "term", "()I"⟩, 63) := ⟨⟨by decide +kernel, by decide +kernel⟩, List.mem_of_getElem? (i := 945) (by decide +kernel), List.mem_of_getElem? (i := 1240) (by decide +kernel), List.mem_of_getElem? (i := 1241) (by decide +kernel)⟩
theorem lw_p31 : lw_okq (⟨"ArmpitLineModel", "one", "()I"⟩, 63) := ⟨⟨by decide +kernel, by decide +kernel⟩, List.mem_of_getElem? (i := 945) (by decide +kernel), List.mem_of_getElem? (i := 1244) (by decide +kernel), List.mem_of_getElem? (i := 1245) (by decide +kernel)⟩
def lw_privs_2 : List (MethodName × Nat) := [(⟨"ArmpitLine$Cases", "isSplitBy", "(I)Z"⟩, 4), (⟨"ArmpitLineModel", "spell", "(IJ)V"⟩, 63), (⟨"ArmpitLineModel", "isMan", "(I)Z"⟩, 63), (⟨"ArmpitLineModel", "read", "(IIIII)I"⟩, 63), (⟨"ArmpitLineModel", "next", "()V"⟩, 63), (⟨"ArmpitLineModel", "byteAt", "(I)I"⟩, 63), (⟨"ArmpitLineModel", "section", "(J)I"⟩, 63), (⟨"ArmpitLineModel", "isWord", "(J)Z"⟩, 63), (⟨"ArmpitLineModel", "fail", "()V"⟩, 63), (⟨"ArmpitLineModel", "either", "()I"⟩, 63), (⟨"ArmpitLineModel", "both", "()I"⟩, 63), (⟨"ArmpitLineModel", "not", "()I"⟩, 63), (⟨"ArmpitLineModel", "opens", "()Z"⟩, 63), (⟨"ArmpitLineModel", "added", "()I"⟩, 63), (⟨"ArmpitLineModel", "term", "()I"⟩, 63), (⟨"ArmpitLineModel", "one", "()I"⟩, 63)]
theorem lw_r2 : ∀ q ∈ lw_privs_2, lw_okq q := List.forall_mem_cons.mpr ⟨lw_p16, List.forall_mem_cons.mpr ⟨lw_p17, List.forall_mem_cons.mpr ⟨lw_p18, List.forall_mem_cons.mpr ⟨lw_p19, List.forall_mem_cons.mpr ⟨lw_p20, List.forall_mem_cons.mpr ⟨lw_p21, List.forall_mem_cons.mpr ⟨lw_p22, List.forall_mem_cons.mpr ⟨lw_p23, List.forall_mem_cons.mpr ⟨lw_p24, List.forall_mem_cons.mpr ⟨lw_p25, List.forall_mem_cons.mpr ⟨lw_p26, List.forall_mem_cons.mpr ⟨lw_p27, List.forall_mem_cons.mpr ⟨lw_p28, List.forall_mem_cons.mpr ⟨lw_p29, List.forall_mem_cons.mpr ⟨lw_p30, List.forall_mem_cons.mpr ⟨lw_p31, fun _ h => absurd h List.not_mem_nil⟩⟩⟩⟩⟩⟩⟩⟩⟩⟩⟩⟩⟩⟩⟩⟩
theorem lw_p32 : lw_okq (⟨"ArmpitLineModel", "isSign", "(I)Z"⟩, 63) := ⟨⟨by decide +kernel, by decide +kernel⟩, List.mem_of_getElem? (i := 945) (by decide +kernel), List.mem_of_getElem? (i := 1248) (by decide +kernel), List.mem_of_getElem? (i := 1249) (by decide +kernel)⟩
theorem lw_p33 : lw_okq (⟨"ArmpitLineModel", "name", "()I"⟩, 63) := ⟨⟨by decide +kernel, by decide +kernel⟩, List.mem_of_getElem? (i := 945) (by decide +kernel), List.mem_of_getElem? (i := 1252) (by decide +kernel), List.mem_of_getElem? (i := 1253) (by decide +kernel)⟩
theorem lw_p34 : lw_okq (⟨"ArmpitLineModel", "frontOf", "(II)I"⟩, 63) := ⟨⟨by decide +kernel, by decide +kernel⟩, List.mem_of_getElem? (i := 945) (by decide +kernel), List.mem_of_getElem? (i := 1294) (by decide +kernel), List.mem_of_getElem? (i := 1295) (by decide +kernel)⟩
theorem lw_p35 : lw_okq (⟨"ArmpitLineModel", "foremost", "(II)I"⟩, 63) := ⟨⟨by decide +kernel, by decide +kernel⟩, List.mem_of_getElem? (i := 945) (by decide +kernel), List.mem_of_getElem? (i := 1298) (by decide +kernel), List.mem_of_getElem? (i := 1299) (by decide +kernel)⟩
theorem lw_p36 : lw_okq (⟨"ArmpitLineModel", "whereOf", "(II)I"⟩, 63) := ⟨⟨by decide +kernel, by decide +kernel⟩, List.mem_of_getElem? (i := 945) (by decide +kernel), List.mem_of_getElem? (i := 1302) (by decide +kernel), List.mem_of_getElem? (i := 1303) (by decide +kernel)⟩
theorem lw_p37 : lw_okq (⟨"ArmpitLineModel", "frameOf", "(II)I"⟩, 63) := ⟨⟨by decide +kernel, by decide +kernel⟩, List.mem_of_getElem? (i := 945) (by decide +kernel), List.mem_of_getElem? (i := 1318) (by decide +kernel), List.mem_of_getElem? (i := 1319) (by decide +kernel)⟩
theorem lw_p38 : lw_okq (⟨"ArmpitLineModel", "seen", "(II)I"⟩, 63) := ⟨⟨by decide +kernel, by decide +kernel⟩, List.mem_of_getElem? (i := 945) (by decide +kernel), List.mem_of_getElem? (i := 1328) (by decide +kernel), List.mem_of_getElem? (i := 1329) (by decide +kernel)⟩
theorem lw_p39 : lw_okq (⟨"ArmpitLineModel", "isCall", "(I)Z"⟩, 63) := ⟨⟨by decide +kernel, by decide +kernel⟩, List.mem_of_getElem? (i := 945) (by decide +kernel), List.mem_of_getElem? (i := 1346) (by decide +kernel), List.mem_of_getElem? (i := 1347) (by decide +kernel)⟩
theorem lw_p40 : lw_okq (⟨"ArmpitLineModel", "spreadOf", "(I)I"⟩, 63) := ⟨⟨by decide +kernel, by decide +kernel⟩, List.mem_of_getElem? (i := 945) (by decide +kernel), List.mem_of_getElem? (i := 1350) (by decide +kernel), List.mem_of_getElem? (i := 1351) (by decide +kernel)⟩
theorem lw_p41 : lw_okq (⟨"ArmpitLineModel", "marginBy", "(II)I"⟩, 63) := ⟨⟨by decide +kernel, by decide +kernel⟩, List.mem_of_getElem? (i := 945) (by decide +kernel), List.mem_of_getElem? (i := 1354) (by decide +kernel), List.mem_of_getElem? (i := 1355) (by decide +kernel)⟩
theorem lw_p42 : lw_okq (⟨"ArmpitLineModel", "trueMargin", "(II)I"⟩, 63) := ⟨⟨by decide +kernel, by decide +kernel⟩, List.mem_of_getElem? (i := 945) (by decide +kernel), List.mem_of_getElem? (i := 1358) (by decide +kernel), List.mem_of_getElem? (i := 1359) (by decide +kernel)⟩
theorem lw_p43 : lw_okq (⟨"ArmpitLineModel", "crossed", "(IIIZ)I"⟩, 63) := ⟨⟨by decide +kernel, by decide +kernel⟩, List.mem_of_getElem? (i := 945) (by decide +kernel), List.mem_of_getElem? (i := 1362) (by decide +kernel), List.mem_of_getElem? (i := 1363) (by decide +kernel)⟩
theorem lw_p44 : lw_okq (⟨"ArmpitLineModel", "bandBy", "(II)I"⟩, 63) := ⟨⟨by decide +kernel, by decide +kernel⟩, List.mem_of_getElem? (i := 945) (by decide +kernel), List.mem_of_getElem? (i := 1366) (by decide +kernel), List.mem_of_getElem? (i := 1367) (by decide +kernel)⟩
theorem lw_p45 : lw_okq (⟨"ArmpitLineModel", "nearOf", "(I)I"⟩, 63) := ⟨⟨by decide +kernel, by decide +kernel⟩, List.mem_of_getElem? (i := 945) (by decide +kernel), List.mem_of_getElem? (i := 1370) (by decide +kernel), List.mem_of_getElem? (i := 1371) (by decide +kernel)⟩
theorem lw_p46 : lw_okq (⟨"ArmpitLineModel", "isAhead", "(II)Z"⟩, 63) := ⟨⟨by decide +kernel, by decide +kernel⟩, List.mem_of_getElem? (i := 945) (by decide +kernel), List.mem_of_getElem? (i := 1374) (by decide +kernel), List.mem_of_getElem? (i := 1375) (by decide +kernel)⟩
theorem lw_p47 : lw_okq (⟨"ArmpitLineModel", "isOffside", "(II)Z"⟩, 63) := ⟨⟨by decide +kernel, by decide +kernel⟩, List.mem_of_getElem? (i := 945) (by decide +kernel), List.mem_of_getElem? (i := 1378) (by decide +kernel), List.mem_of_getElem? (i := 1379) (by decide +kernel)⟩
def lw_privs_3 : List (MethodName × Nat) := [(⟨"ArmpitLineModel", "isSign", "(I)Z"⟩, 63), (⟨"ArmpitLineModel", "name", "()I"⟩, 63), (⟨"ArmpitLineModel", "frontOf", "(II)I"⟩, 63), (⟨"ArmpitLineModel", "foremost", "(II)I"⟩, 63), (⟨"ArmpitLineModel", "whereOf", "(II)I"⟩, 63), (⟨"ArmpitLineModel", "frameOf", "(II)I"⟩, 63), (⟨"ArmpitLineModel", "seen", "(II)I"⟩, 63), (⟨"ArmpitLineModel", "isCall", "(I)Z"⟩, 63), (⟨"ArmpitLineModel", "spreadOf", "(I)I"⟩, 63), (⟨"ArmpitLineModel", "marginBy", "(II)I"⟩, 63), (⟨"ArmpitLineModel", "trueMargin", "(II)I"⟩, 63), (⟨"ArmpitLineModel", "crossed", "(IIIZ)I"⟩, 63), (⟨"ArmpitLineModel", "bandBy", "(II)I"⟩, 63), (⟨"ArmpitLineModel", "nearOf", "(I)I"⟩, 63), (⟨"ArmpitLineModel", "isAhead", "(II)Z"⟩, 63), (⟨"ArmpitLineModel", "isOffside", "(II)Z"⟩, 63)]
theorem lw_r3 : ∀ q ∈ lw_privs_3, lw_okq q := List.forall_mem_cons.mpr ⟨lw_p32, List.forall_mem_cons.mpr ⟨lw_p33, List.forall_mem_cons.mpr ⟨lw_p34, List.forall_mem_cons.mpr ⟨lw_p35, List.forall_mem_cons.mpr ⟨lw_p36, List.forall_mem_cons.mpr ⟨lw_p37, List.forall_mem_cons.mpr ⟨lw_p38, List.forall_mem_cons.mpr ⟨lw_p39, List.forall_mem_cons.mpr ⟨lw_p40, List.forall_mem_cons.mpr ⟨lw_p41, List.forall_mem_cons.mpr ⟨lw_p42, List.forall_mem_cons.mpr ⟨lw_p43, List.forall_mem_cons.mpr ⟨lw_p44, List.forall_mem_cons.mpr ⟨lw_p45, List.forall_mem_cons.mpr ⟨lw_p46, List.forall_mem_cons.mpr ⟨lw_p47, fun _ h => absurd h List.not_mem_nil⟩⟩⟩⟩⟩⟩⟩⟩⟩⟩⟩⟩⟩⟩⟩⟩
theorem lw_p48 : lw_okq (⟨"ArmpitLineModel", "waysOf", "(I)I"⟩, 63) := ⟨⟨by decide +kernel, by decide +kernel⟩, List.mem_of_getElem? (i := 945) (by decide +kernel), List.mem_of_getElem? (i := 1382) (by decide +kernel), List.mem_of_getElem? (i := 1383) (by decide +kernel)⟩
theorem lw_p49 : lw_okq (⟨"ArmpitLineModel", "turnsOf", "(I)I"⟩, 63) := ⟨⟨by decide +kernel, by decide +kernel⟩, List.mem_of_getElem? (i := 945) (by decide +kernel), List.mem_of_getElem? (i := 1386) (by decide +kernel), List.mem_of_getElem? (i := 1387) (by decide +kernel)⟩
theorem lw_p50 : lw_okq (⟨"ArmpitLineModel", "all", "()I"⟩, 63) := ⟨⟨by decide +kernel, by decide +kernel⟩, List.mem_of_getElem? (i := 945) (by decide +kernel), List.mem_of_getElem? (i := 1394) (by decide +kernel), List.mem_of_getElem? (i := 1395) (by decide +kernel)⟩
theorem lw_p51 : lw_okq (⟨"ArmpitLineModel", "offsides", "(I)I"⟩, 63) := ⟨⟨by decide +kernel, by decide +kernel⟩, List.mem_of_getElem? (i := 945) (by decide +kernel), List.mem_of_getElem? (i := 1398) (by decide +kernel), List.mem_of_getElem? (i := 1399) (by decide +kernel)⟩
theorem lw_p52 : lw_okq (⟨"ArmpitLineModel", "widths", "(I)I"⟩, 63) := ⟨⟨by decide +kernel, by decide +kernel⟩, List.mem_of_getElem? (i := 945) (by decide +kernel), List.mem_of_getElem? (i := 1409) (by decide +kernel), List.mem_of_getElem? (i := 1410) (by decide +kernel)⟩
theorem lw_p53 : lw_okq (⟨"ArmpitLineModel", "wrongs", "(III)I"⟩, 63) := ⟨⟨by decide +kernel, by decide +kernel⟩, List.mem_of_getElem? (i := 945) (by decide +kernel), List.mem_of_getElem? (i := 1413) (by decide +kernel), List.mem_of_getElem? (i := 1414) (by decide +kernel)⟩
theorem lw_p54 : lw_okq (⟨"ArmpitLineModel", "tables", "(I)V"⟩, 63) := ⟨⟨by decide +kernel, by decide +kernel⟩, List.mem_of_getElem? (i := 945) (by decide +kernel), List.mem_of_getElem? (i := 1429) (by decide +kernel), List.mem_of_getElem? (i := 1430) (by decide +kernel)⟩
theorem lw_p55 : lw_okq (⟨"ArmpitLineModel", "counts", "(III)V"⟩, 63) := ⟨⟨by decide +kernel, by decide +kernel⟩, List.mem_of_getElem? (i := 945) (by decide +kernel), List.mem_of_getElem? (i := 1433) (by decide +kernel), List.mem_of_getElem? (i := 1434) (by decide +kernel)⟩
theorem lw_p56 : lw_okq (⟨"ArmpitLineModel", "rankOf", "(I)I"⟩, 63) := ⟨⟨by decide +kernel, by decide +kernel⟩, List.mem_of_getElem? (i := 945) (by decide +kernel), List.mem_of_getElem? (i := 1437) (by decide +kernel), List.mem_of_getElem? (i := 1438) (by decide +kernel)⟩
theorem lw_p57 : lw_okq (⟨"ArmpitLineModel", "isAbove", "(II)Z"⟩, 63) := ⟨⟨by decide +kernel, by decide +kernel⟩, List.mem_of_getElem? (i := 945) (by decide +kernel), List.mem_of_getElem? (i := 1441) (by decide +kernel), List.mem_of_getElem? (i := 1442) (by decide +kernel)⟩
theorem lw_p58 : lw_okq (⟨"ArmpitLineModel", "ranks", "(I)I"⟩, 63) := ⟨⟨by decide +kernel, by decide +kernel⟩, List.mem_of_getElem? (i := 945) (by decide +kernel), List.mem_of_getElem? (i := 1449) (by decide +kernel), List.mem_of_getElem? (i := 1450) (by decide +kernel)⟩
def lw_privs_4 : List (MethodName × Nat) := [(⟨"ArmpitLineModel", "waysOf", "(I)I"⟩, 63), (⟨"ArmpitLineModel", "turnsOf", "(I)I"⟩, 63), (⟨"ArmpitLineModel", "all", "()I"⟩, 63), (⟨"ArmpitLineModel", "offsides", "(I)I"⟩, 63), (⟨"ArmpitLineModel", "widths", "(I)I"⟩, 63), (⟨"ArmpitLineModel", "wrongs", "(III)I"⟩, 63), (⟨"ArmpitLineModel", "tables", "(I)V"⟩, 63), (⟨"ArmpitLineModel", "counts", "(III)V"⟩, 63), (⟨"ArmpitLineModel", "rankOf", "(I)I"⟩, 63), (⟨"ArmpitLineModel", "isAbove", "(II)Z"⟩, 63), (⟨"ArmpitLineModel", "ranks", "(I)I"⟩, 63)]
theorem lw_r4 : ∀ q ∈ lw_privs_4, lw_okq q := List.forall_mem_cons.mpr ⟨lw_p48, List.forall_mem_cons.mpr ⟨lw_p49, List.forall_mem_cons.mpr ⟨lw_p50, List.forall_mem_cons.mpr ⟨lw_p51, List.forall_mem_cons.mpr ⟨lw_p52, List.forall_mem_cons.mpr ⟨lw_p53, List.forall_mem_cons.mpr ⟨lw_p54, List.forall_mem_cons.mpr ⟨lw_p55, List.forall_mem_cons.mpr ⟨lw_p56, List.forall_mem_cons.mpr ⟨lw_p57, List.forall_mem_cons.mpr ⟨lw_p58, fun _ h => absurd h List.not_mem_nil⟩⟩⟩⟩⟩⟩⟩⟩⟩⟩⟩
def lw_privs : List (MethodName × Nat) := lw_privs_1 ++ (lw_privs_2 ++ (lw_privs_3 ++ (lw_privs_4)))
def lw_tbl : List Cond := k2_sels lw_privs ++ tables_1
theorem lw_privs_ok : ∀ q ∈ lw_privs, lw_okq q := by
  show ∀ q ∈ lw_privs_1 ++ (lw_privs_2 ++ (lw_privs_3 ++ (lw_privs_4))), lw_okq q
  exact List.forall_mem_append.mpr ⟨lw_r1, List.forall_mem_append.mpr ⟨lw_r2, List.forall_mem_append.mpr ⟨lw_r3, lw_r4⟩⟩⟩
end
section
def RX0 : String := "ArmpitLine$Calls"
def TX0 : u_T := fun k => match k with
  | 0 => ("ArmpitLine$Calls", "kind", "[I", true)
  | 1 => ("ArmpitLine$Calls", "first", "[I", true)
  | 2 => ("ArmpitLine$Calls", "other", "[I", true)
  | 3 => ("ArmpitLine$Calls", "tick", "[I", true)
  | 4 => ("ArmpitLine$Calls", "camera", "[I", true)
  | 5 => ("ArmpitLine$Calls", "crosser", "[I", true)
  | 6 => ("ArmpitLine$Calls", "attackers", "[I", true)
  | _ => ("ArmpitLine$Calls", "size", "I", false)
def tyX0 : Nat → FieldType := fun k => match k with
  | 0 => .array .int
  | 1 => .array .int
  | 2 => .array .int
  | 3 => .array .int
  | 4 => .array .int
  | 5 => .array .int
  | 6 => .array .int
  | _ => .int
abbrev wsX00 : List Cond := u_ws RX0 TX0 8
theorem nmX0 : ∀ a, a < 8 → ∀ b, b < 8 → a ≠ b → (TX0 a).2.1 ≠ (TX0 b).2.1 := by decide +kernel
theorem tyX0_ok : ∀ k, k < 8 → parseFieldDescriptor (TX0 k).2.2.1 = some (tyX0 k) := by decide +kernel
abbrev cX0_init : ByteArray := prog_2_method_1_code
def yX0_init : MethodName := ⟨RX0, "<init>", "()V"⟩
abbrev cX0_has : ByteArray := prog_2_method_2_code
def yX0_has : MethodName := ⟨RX0, "has", "(I)Z"⟩
abbrev cX0_all : ByteArray := prog_2_method_3_code
def yX0_all : MethodName := ⟨RX0, "all", "()I"⟩
abbrev cX0_hasAll : ByteArray := prog_2_method_4_code
def yX0_hasAll : MethodName := ⟨RX0, "hasAll", "(I)Z"⟩
abbrev cX0_attackedBy : ByteArray := prog_2_method_5_code
def yX0_attackedBy : MethodName := ⟨RX0, "attackedBy", "(II)I"⟩
abbrev cX0_add : ByteArray := prog_2_method_6_code
def yX0_add : MethodName := ⟨RX0, "add", "(IIIIII)I"⟩
def RX1 : String := "ArmpitLine$Cameras"
def TX1 : u_T := fun k => match k with
  | 0 => ("ArmpitLine$Cameras", "every", "[I", true)
  | 1 => ("ArmpitLine$Cameras", "first", "[I", true)
  | 2 => ("ArmpitLine$Cameras", "slant", "[I", true)
  | _ => ("ArmpitLine$Cameras", "size", "I", false)
def tyX1 : Nat → FieldType := fun k => match k with
  | 0 => .array .int
  | 1 => .array .int
  | 2 => .array .int
  | _ => .int
abbrev wsX10 : List Cond := u_ws RX1 TX1 4
theorem nmX1 : ∀ a, a < 4 → ∀ b, b < 4 → a ≠ b → (TX1 a).2.1 ≠ (TX1 b).2.1 := by decide +kernel
theorem tyX1_ok : ∀ k, k < 4 → parseFieldDescriptor (TX1 k).2.2.1 = some (tyX1 k) := by decide +kernel
abbrev cX1_init : ByteArray := prog_3_method_1_code
def yX1_init : MethodName := ⟨RX1, "<init>", "()V"⟩
abbrev cX1_has : ByteArray := prog_3_method_2_code
def yX1_has : MethodName := ⟨RX1, "has", "(I)Z"⟩
abbrev cX1_add : ByteArray := prog_3_method_3_code
def yX1_add : MethodName := ⟨RX1, "add", "(III)I"⟩
abbrev cX1_frameFor : ByteArray := prog_3_method_4_code
def yX1_frameFor : MethodName := ⟨RX1, "frameFor", "(II)I"⟩
abbrev cX1_seenAt : ByteArray := prog_3_method_5_code
def yX1_seenAt : MethodName := ⟨RX1, "seenAt", "(II)I"⟩
def RX2 : String := "ArmpitLine$Cases"
def TX2 : u_T := fun k => match k with
  | 0 => ("ArmpitLine$Cases", "marks", "[I", true)
  | 1 => ("ArmpitLine$Cases", "word", "[I", true)
  | 2 => ("ArmpitLine$Cases", "wordBy", "[I", true)
  | _ => ("ArmpitLine$Cases", "size", "I", false)
def tyX2 : Nat → FieldType := fun k => match k with
  | 0 => .array .int
  | 1 => .array .int
  | 2 => .array .int
  | _ => .int
abbrev wsX20 : List Cond := u_ws RX2 TX2 4
theorem nmX2 : ∀ a, a < 4 → ∀ b, b < 4 → a ≠ b → (TX2 a).2.1 ≠ (TX2 b).2.1 := by decide +kernel
theorem tyX2_ok : ∀ k, k < 4 → parseFieldDescriptor (TX2 k).2.2.1 = some (tyX2 k) := by decide +kernel
abbrev cX2_init : ByteArray := prog_4_method_1_code
def yX2_init : MethodName := ⟨RX2, "<init>", "()V"⟩
abbrev cX2_add : ByteArray := prog_4_method_2_code
def yX2_add : MethodName := ⟨RX2, "add", "(II)I"⟩
abbrev cX2_fewestMarks : ByteArray := prog_4_method_3_code
def yX2_fewestMarks : MethodName := ⟨RX2, "fewestMarks", "()I"⟩
abbrev cX2_isSplitBy : ByteArray := prog_4_method_4_code
def yX2_isSplitBy : MethodName := ⟨RX2, "isSplitBy", "(I)Z"⟩
def RX3 : String := "ArmpitLine$Crossers"
def TX3 : u_T := fun k => match k with
  | 0 => ("ArmpitLine$Crossers", "lean", "[I", true)
  | 1 => ("ArmpitLine$Crossers", "spread", "[I", true)
  | _ => ("ArmpitLine$Crossers", "size", "I", false)
def tyX3 : Nat → FieldType := fun k => match k with
  | 0 => .array .int
  | 1 => .array .int
  | _ => .int
abbrev wsX30 : List Cond := u_ws RX3 TX3 3
theorem nmX3 : ∀ a, a < 3 → ∀ b, b < 3 → a ≠ b → (TX3 a).2.1 ≠ (TX3 b).2.1 := by decide +kernel
theorem tyX3_ok : ∀ k, k < 3 → parseFieldDescriptor (TX3 k).2.2.1 = some (tyX3 k) := by decide +kernel
abbrev cX3_init : ByteArray := prog_5_method_1_code
def yX3_init : MethodName := ⟨RX3, "<init>", "()V"⟩
abbrev cX3_has : ByteArray := prog_5_method_2_code
def yX3_has : MethodName := ⟨RX3, "has", "(I)Z"⟩
abbrev cX3_add : ByteArray := prog_5_method_3_code
def yX3_add : MethodName := ⟨RX3, "add", "(II)I"⟩
def RX4 : String := "ArmpitLine$League"
def TX4 : u_T := fun k => match k with
  | 0 => ("ArmpitLine$League", "home", "[I", true)
  | 1 => ("ArmpitLine$League", "guest", "[I", true)
  | 2 => ("ArmpitLine$League", "goals", "[I", true)
  | 3 => ("ArmpitLine$League", "calls", "[I", true)
  | 4 => ("ArmpitLine$League", "size", "I", false)
  | 5 => ("ArmpitLine$League", "points", "[I", true)
  | 6 => ("ArmpitLine$League", "goalsFor", "[I", true)
  | _ => ("ArmpitLine$League", "goalsAgainst", "[I", true)
def tyX4 : Nat → FieldType := fun k => match k with
  | 0 => .array .int
  | 1 => .array .int
  | 2 => .array .int
  | 3 => .array .int
  | 4 => .int
  | 5 => .array .int
  | 6 => .array .int
  | _ => .array .int
abbrev wsX40 : List Cond := u_ws RX4 TX4 8
theorem nmX4 : ∀ a, a < 8 → ∀ b, b < 8 → a ≠ b → (TX4 a).2.1 ≠ (TX4 b).2.1 := by decide +kernel
theorem tyX4_ok : ∀ k, k < 8 → parseFieldDescriptor (TX4 k).2.2.1 = some (tyX4 k) := by decide +kernel
abbrev cX4_init : ByteArray := prog_6_method_1_code
def yX4_init : MethodName := ⟨RX4, "<init>", "()V"⟩
abbrev cX4_add : ByteArray := prog_6_method_2_code
def yX4_add : MethodName := ⟨RX4, "add", "(III)I"⟩
abbrev cX4_playAll : ByteArray := prog_6_method_3_code
def yX4_playAll : MethodName := ⟨RX4, "playAll", "(ILArmpitLine$Calls;)V"⟩
abbrev cX4_score : ByteArray := prog_6_method_4_code
def yX4_score : MethodName := ⟨RX4, "score", "(III)V"⟩
abbrev cX4_rankOf : ByteArray := prog_6_method_5_code
def yX4_rankOf : MethodName := ⟨RX4, "rankOf", "(I)I"⟩
abbrev cX4_isAbove : ByteArray := prog_6_method_6_code
def yX4_isAbove : MethodName := ⟨RX4, "isAbove", "(II)Z"⟩
abbrev cX4_allRanks : ByteArray := prog_6_method_7_code
def yX4_allRanks : MethodName := ⟨RX4, "allRanks", "()I"⟩
def RX5 : String := "ArmpitLine$Pitch"
def TX5 : u_T := fun k => match k with
  | 0 => ("ArmpitLine$Pitch", "squad", "LArmpitLine$Squad;", true)
  | 1 => ("ArmpitLine$Pitch", "cameras", "LArmpitLine$Cameras;", true)
  | 2 => ("ArmpitLine$Pitch", "crossers", "LArmpitLine$Crossers;", true)
  | 3 => ("ArmpitLine$Pitch", "texts", "LArmpitLine$Texts;", true)
  | 4 => ("ArmpitLine$Pitch", "calls", "LArmpitLine$Calls;", true)
  | 5 => ("ArmpitLine$Pitch", "asWidth", "I", false)
  | 6 => ("ArmpitLine$Pitch", "fallenSide", "I", false)
  | 7 => ("ArmpitLine$Pitch", "fallenBy", "I", false)
  | 8 => ("ArmpitLine$Pitch", "wrongGoals", "I", false)
  | _ => ("ArmpitLine$Pitch", "wrongNone", "I", false)
def tyX5 : Nat → FieldType := fun k => match k with
  | 0 => .object "ArmpitLine$Squad"
  | 1 => .object "ArmpitLine$Cameras"
  | 2 => .object "ArmpitLine$Crossers"
  | 3 => .object "ArmpitLine$Texts"
  | 4 => .object "ArmpitLine$Calls"
  | 5 => .int
  | 6 => .int
  | 7 => .int
  | 8 => .int
  | _ => .int
abbrev wsX50 : List Cond := u_ws RX5 TX5 10
theorem nmX5 : ∀ a, a < 10 → ∀ b, b < 10 → a ≠ b → (TX5 a).2.1 ≠ (TX5 b).2.1 := by decide +kernel
theorem tyX5_ok : ∀ k, k < 10 → parseFieldDescriptor (TX5 k).2.2.1 = some (tyX5 k) := by decide +kernel
abbrev cX5_init : ByteArray := prog_7_method_1_code
def yX5_init : MethodName := ⟨RX5, "<init>", "()V"⟩
abbrev cX5_lookAs : ByteArray := prog_7_method_2_code
def yX5_lookAs : MethodName := ⟨RX5, "lookAs", "(I)V"⟩
abbrev cX5_lookAsStanding : ByteArray := prog_7_method_3_code
def yX5_lookAsStanding : MethodName := ⟨RX5, "lookAsStanding", "(III)V"⟩
abbrev cX5_whereIs : ByteArray := prog_7_method_4_code
def yX5_whereIs : MethodName := ⟨RX5, "whereIs", "(II)I"⟩
abbrev cX5_leadOf : ByteArray := prog_7_method_5_code
def yX5_leadOf : MethodName := ⟨RX5, "leadOf", "(II)I"⟩
abbrev cX5_frontOf : ByteArray := prog_7_method_6_code
def yX5_frontOf : MethodName := ⟨RX5, "frontOf", "(II)I"⟩
abbrev cX5_worthOf : ByteArray := prog_7_method_7_code
def yX5_worthOf : MethodName := ⟨RX5, "worthOf", "(IIII)I"⟩
abbrev cX5_ruledOn : ByteArray := prog_7_method_8_code
def yX5_ruledOn : MethodName := ⟨RX5, "ruledOn", "(III)I"⟩
abbrev cX5_trueMargin : ByteArray := prog_7_method_9_code
def yX5_trueMargin : MethodName := ⟨RX5, "trueMargin", "(II)I"⟩
abbrev cX5_leanOn : ByteArray := prog_7_method_10_code
def yX5_leanOn : MethodName := ⟨RX5, "leanOn", "(II)I"⟩
abbrev cX5_marginOf : ByteArray := prog_7_method_11_code
def yX5_marginOf : MethodName := ⟨RX5, "marginOf", "(II)I"⟩
abbrev cX5_bandOf : ByteArray := prog_7_method_12_code
def yX5_bandOf : MethodName := ⟨RX5, "bandOf", "(II)I"⟩
abbrev cX5_isOffside : ByteArray := prog_7_method_13_code
def yX5_isOffside : MethodName := ⟨RX5, "isOffside", "(II)Z"⟩
abbrev cX5_offsideAmong : ByteArray := prog_7_method_14_code
def yX5_offsideAmong : MethodName := ⟨RX5, "offsideAmong", "(I)I"⟩
abbrev cX5_weigh : ByteArray := prog_7_method_15_code
def yX5_weigh : MethodName := ⟨RX5, "weigh", "(I)V"⟩
abbrev cX5_spreadOf : ByteArray := prog_7_method_16_code
def yX5_spreadOf : MethodName := ⟨RX5, "spreadOf", "(I)I"⟩
abbrev cX5_pairsOf : ByteArray := prog_7_method_17_code
def yX5_pairsOf : MethodName := ⟨RX5, "pairsOf", "(I)I"⟩
abbrev cX5_waysOf : ByteArray := prog_7_method_18_code
def yX5_waysOf : MethodName := ⟨RX5, "waysOf", "(I)I"⟩
abbrev cX5_frameErrorOf : ByteArray := prog_7_method_19_code
def yX5_frameErrorOf : MethodName := ⟨RX5, "frameErrorOf", "(I)I"⟩
abbrev cX5_turnOf : ByteArray := prog_7_method_20_code
def yX5_turnOf : MethodName := ⟨RX5, "turnOf", "(I)I"⟩
def RX6 : String := "ArmpitLine$Reader"
def TX6 : u_T := fun k => match k with
  | 0 => ("ArmpitLine$Reader", "tape", "LArmpitLine$Tape;", true)
  | 1 => ("ArmpitLine$Reader", "code", "[I", true)
  | 2 => ("ArmpitLine$Reader", "end", "[I", true)
  | 3 => ("ArmpitLine$Reader", "used", "I", false)
  | _ => ("ArmpitLine$Reader", "at", "I", false)
def tyX6 : Nat → FieldType := fun k => match k with
  | 0 => .object "ArmpitLine$Tape"
  | 1 => .array .int
  | 2 => .array .int
  | 3 => .int
  | _ => .int
abbrev wsX60 : List Cond := u_ws RX6 TX6 5
theorem nmX6 : ∀ a, a < 5 → ∀ b, b < 5 → a ≠ b → (TX6 a).2.1 ≠ (TX6 b).2.1 := by decide +kernel
theorem tyX6_ok : ∀ k, k < 5 → parseFieldDescriptor (TX6 k).2.2.1 = some (tyX6 k) := by decide +kernel
abbrev cX6_init : ByteArray := prog_8_method_1_code
def yX6_init : MethodName := ⟨RX6, "<init>", "()V"⟩
abbrev cX6_readTape : ByteArray := prog_8_method_2_code
def yX6_readTape : MethodName := ⟨RX6, "readTape", "()I"⟩
abbrev cX6_readKeys : ByteArray := prog_8_method_3_code
def yX6_readKeys : MethodName := ⟨RX6, "readKeys", "()Z"⟩
abbrev cX6_kindNow : ByteArray := prog_8_method_4_code
def yX6_kindNow : MethodName := ⟨RX6, "kindNow", "()I"⟩
abbrev cX6_pass : ByteArray := prog_8_method_5_code
def yX6_pass : MethodName := ⟨RX6, "pass", "(I)Z"⟩
abbrev cX6_emit : ByteArray := prog_8_method_6_code
def yX6_emit : MethodName := ⟨RX6, "emit", "(I)V"⟩
abbrev cX6_readOr : ByteArray := prog_8_method_7_code
def yX6_readOr : MethodName := ⟨RX6, "readOr", "(I)Z"⟩
abbrev cX6_readAnd : ByteArray := prog_8_method_8_code
def yX6_readAnd : MethodName := ⟨RX6, "readAnd", "(I)Z"⟩
abbrev cX6_readNot : ByteArray := prog_8_method_9_code
def yX6_readNot : MethodName := ⟨RX6, "readNot", "(I)Z"⟩
abbrev cX6_readSum : ByteArray := prog_8_method_10_code
def yX6_readSum : MethodName := ⟨RX6, "readSum", "(I)Z"⟩
abbrev cX6_readTerm : ByteArray := prog_8_method_11_code
def yX6_readTerm : MethodName := ⟨RX6, "readTerm", "(I)Z"⟩
abbrev cX6_readOne : ByteArray := prog_8_method_12_code
def yX6_readOne : MethodName := ⟨RX6, "readOne", "(I)Z"⟩
def RX7 : String := "ArmpitLine$Sheets"
def TX7 : u_T := fun k => match k with
  | 0 => ("ArmpitLine$Sheets", "sort", "[I", true)
  | 1 => ("ArmpitLine$Sheets", "size", "[I", true)
  | _ => ("ArmpitLine$Sheets", "item", "[I", true)
def tyX7 : Nat → FieldType := fun k => match k with
  | 0 => .array .int
  | 1 => .array .int
  | _ => .array .int
abbrev wsX70 : List Cond := u_ws RX7 TX7 3
theorem nmX7 : ∀ a, a < 3 → ∀ b, b < 3 → a ≠ b → (TX7 a).2.1 ≠ (TX7 b).2.1 := by decide +kernel
theorem tyX7_ok : ∀ k, k < 3 → parseFieldDescriptor (TX7 k).2.2.1 = some (tyX7 k) := by decide +kernel
abbrev cX7_init : ByteArray := prog_9_method_1_code
def yX7_init : MethodName := ⟨RX7, "<init>", "()V"⟩
abbrev cX7_isMissing : ByteArray := prog_9_method_2_code
def yX7_isMissing : MethodName := ⟨RX7, "isMissing", "(I)Z"⟩
abbrev cX7_has : ByteArray := prog_9_method_3_code
def yX7_has : MethodName := ⟨RX7, "has", "(II)Z"⟩
abbrev cX7_hasRun : ByteArray := prog_9_method_4_code
def yX7_hasRun : MethodName := ⟨RX7, "hasRun", "(III)Z"⟩
abbrev cX7_itemOf : ByteArray := prog_9_method_5_code
def yX7_itemOf : MethodName := ⟨RX7, "itemOf", "(II)I"⟩
abbrev cX7_layOut : ByteArray := prog_9_method_6_code
def yX7_layOut : MethodName := ⟨RX7, "layOut", "(III)V"⟩
abbrev cX7_put : ByteArray := prog_9_method_7_code
def yX7_put : MethodName := ⟨RX7, "put", "(III)V"⟩
abbrev cX7_refusalAsWidths : ByteArray := prog_9_method_8_code
def yX7_refusalAsWidths : MethodName := ⟨RX7, "refusalAsWidths", "(I)I"⟩
def RX8 : String := "ArmpitLine$Squad"
def TX8 : u_T := fun k => match k with
  | 0 => ("ArmpitLine$Squad", "side", "[I", true)
  | 1 => ("ArmpitLine$Squad", "place", "[I", true)
  | 2 => ("ArmpitLine$Squad", "speed", "[I", true)
  | 3 => ("ArmpitLine$Squad", "off", "[I", true)
  | _ => ("ArmpitLine$Squad", "size", "I", false)
def tyX8 : Nat → FieldType := fun k => match k with
  | 0 => .array .int
  | 1 => .array .int
  | 2 => .array .int
  | 3 => .array .int
  | _ => .int
abbrev wsX80 : List Cond := u_ws RX8 TX8 5
theorem nmX8 : ∀ a, a < 5 → ∀ b, b < 5 → a ≠ b → (TX8 a).2.1 ≠ (TX8 b).2.1 := by decide +kernel
theorem tyX8_ok : ∀ k, k < 5 → parseFieldDescriptor (TX8 k).2.2.1 = some (tyX8 k) := by decide +kernel
abbrev cX8_init : ByteArray := prog_10_method_1_code
def yX8_init : MethodName := ⟨RX8, "<init>", "()V"⟩
abbrev cX8_has : ByteArray := prog_10_method_2_code
def yX8_has : MethodName := ⟨RX8, "has", "(I)Z"⟩
abbrev cX8_add : ByteArray := prog_10_method_3_code
def yX8_add : MethodName := ⟨RX8, "add", "(III)I"⟩
abbrev cX8_offOf : ByteArray := prog_10_method_4_code
def yX8_offOf : MethodName := ⟨RX8, "offOf", "(II)I"⟩
abbrev cX8_takeMenOf : ByteArray := prog_10_method_5_code
def yX8_takeMenOf : MethodName := ⟨RX8, "takeMenOf", "(LArmpitLine$Squad;)V"⟩
def RX9 : String := "ArmpitLine$Tape"
def TX9 : u_T := fun k => match k with
  | 0 => ("ArmpitLine$Tape", "fed", "[I", true)
  | 1 => ("ArmpitLine$Tape", "size", "I", false)
  | 2 => ("ArmpitLine$Tape", "kind", "[I", true)
  | 3 => ("ArmpitLine$Tape", "value", "[I", true)
  | 4 => ("ArmpitLine$Tape", "start", "[I", true)
  | _ => ("ArmpitLine$Tape", "tokens", "I", false)
def tyX9 : Nat → FieldType := fun k => match k with
  | 0 => .array .int
  | 1 => .int
  | 2 => .array .int
  | 3 => .array .int
  | 4 => .array .int
  | _ => .int
abbrev wsX90 : List Cond := u_ws RX9 TX9 6
theorem nmX9 : ∀ a, a < 6 → ∀ b, b < 6 → a ≠ b → (TX9 a).2.1 ≠ (TX9 b).2.1 := by decide +kernel
theorem tyX9_ok : ∀ k, k < 6 → parseFieldDescriptor (TX9 k).2.2.1 = some (tyX9 k) := by decide +kernel
abbrev cX9_init : ByteArray := prog_11_method_1_code
def yX9_init : MethodName := ⟨RX9, "<init>", "()V"⟩
abbrev cX9_put : ByteArray := prog_11_method_2_code
def yX9_put : MethodName := ⟨RX9, "put", "(I)V"⟩
abbrev cX9_byteAt : ByteArray := prog_11_method_3_code
def yX9_byteAt : MethodName := ⟨RX9, "byteAt", "(I)I"⟩
abbrev cX9_cut : ByteArray := prog_11_method_4_code
def yX9_cut : MethodName := ⟨RX9, "cut", "()V"⟩
abbrev cX9_note : ByteArray := prog_11_method_5_code
def yX9_note : MethodName := ⟨RX9, "note", "(III)V"⟩
abbrev cX9_cutWord : ByteArray := prog_11_method_6_code
def yX9_cutWord : MethodName := ⟨RX9, "cutWord", "(I)I"⟩
abbrev cX9_wordAmong : ByteArray := prog_11_method_7_code
def yX9_wordAmong : MethodName := ⟨RX9, "wordAmong", "(II)I"⟩
abbrev cX9_cutNumber : ByteArray := prog_11_method_8_code
def yX9_cutNumber : MethodName := ⟨RX9, "cutNumber", "(I)I"⟩
abbrev cX9_isLetter : ByteArray := prog_11_method_9_code
def yX9_isLetter : MethodName := ⟨RX9, "isLetter", "(I)Z"⟩
abbrev cX9_isDigit : ByteArray := prog_11_method_10_code
def yX9_isDigit : MethodName := ⟨RX9, "isDigit", "(I)Z"⟩
abbrev cX9_isSign : ByteArray := prog_11_method_11_code
def yX9_isSign : MethodName := ⟨RX9, "isSign", "(I)Z"⟩
def RX10 : String := "ArmpitLine$Texts"
def TX10 : u_T := fun k => match k with
  | 0 => ("ArmpitLine$Texts", "code", "[I", true)
  | 1 => ("ArmpitLine$Texts", "start", "[I", true)
  | 2 => ("ArmpitLine$Texts", "end", "[I", true)
  | 3 => ("ArmpitLine$Texts", "name", "[I", true)
  | 4 => ("ArmpitLine$Texts", "stack", "[I", true)
  | 5 => ("ArmpitLine$Texts", "size", "I", false)
  | _ => ("ArmpitLine$Texts", "rule", "I", false)
def tyX10 : Nat → FieldType := fun k => match k with
  | 0 => .array .int
  | 1 => .array .int
  | 2 => .array .int
  | 3 => .array .int
  | 4 => .array .int
  | 5 => .int
  | _ => .int
abbrev wsX100 : List Cond := u_ws RX10 TX10 7
theorem nmX10 : ∀ a, a < 7 → ∀ b, b < 7 → a ≠ b → (TX10 a).2.1 ≠ (TX10 b).2.1 := by decide +kernel
theorem tyX10_ok : ∀ k, k < 7 → parseFieldDescriptor (TX10 k).2.2.1 = some (tyX10 k) := by decide +kernel
abbrev cX10_init : ByteArray := prog_12_method_1_code
def yX10_init : MethodName := ⟨RX10, "<init>", "()V"⟩
abbrev cX10_has : ByteArray := prog_12_method_2_code
def yX10_has : MethodName := ⟨RX10, "has", "(I)Z"⟩
abbrev cX10_keep : ByteArray := prog_12_method_3_code
def yX10_keep : MethodName := ⟨RX10, "keep", "(LArmpitLine$Reader;)I"⟩
abbrev cX10_mindsWidth : ByteArray := prog_12_method_4_code
def yX10_mindsWidth : MethodName := ⟨RX10, "mindsWidth", "(I)Z"⟩
abbrev cX10_regard : ByteArray := prog_12_method_5_code
def yX10_regard : MethodName := ⟨RX10, "regard", "(IIII)V"⟩
abbrev cX10_worth : ByteArray := prog_12_method_6_code
def yX10_worth : MethodName := ⟨RX10, "worth", "(III)I"⟩
abbrev cX10_ofOne : ByteArray := prog_12_method_7_code
def yX10_ofOne : MethodName := ⟨RX10, "ofOne", "(II)I"⟩
abbrev cX10_ofTwo : ByteArray := prog_12_method_8_code
def yX10_ofTwo : MethodName := ⟨RX10, "ofTwo", "(III)I"⟩
def RX11 : String := "ArmpitLine"
def TX11 : u_T := fun k => match k with
  | 0 => ("ArmpitLine", "pitch", "LArmpitLine$Pitch;", true)
  | 1 => ("ArmpitLine", "reader", "LArmpitLine$Reader;", true)
  | 2 => ("ArmpitLine", "league", "LArmpitLine$League;", true)
  | 3 => ("ArmpitLine", "cases", "LArmpitLine$Cases;", true)
  | 4 => ("ArmpitLine", "sheets", "LArmpitLine$Sheets;", true)
  | 5 => ("ArmpitLine", "keptSquad", "LArmpitLine$Squad;", true)
  | 6 => ("ArmpitLine", "keptWidth", "I", false)
  | 7 => ("ArmpitLine", "keptRule", "I", false)
  | 8 => ("ArmpitLine", "isImageKept", "Z", false)
  | _ => ("ArmpitLine", "widthNow", "I", false)
def tyX11 : Nat → FieldType := fun k => match k with
  | 0 => .object "ArmpitLine$Pitch"
  | 1 => .object "ArmpitLine$Reader"
  | 2 => .object "ArmpitLine$League"
  | 3 => .object "ArmpitLine$Cases"
  | 4 => .object "ArmpitLine$Sheets"
  | 5 => .object "ArmpitLine$Squad"
  | 6 => .int
  | 7 => .int
  | 8 => .boolean
  | _ => .int
abbrev wsX110 : List Cond := u_ws RX11 TX11 10
theorem nmX11 : ∀ a, a < 10 → ∀ b, b < 10 → a ≠ b → (TX11 a).2.1 ≠ (TX11 b).2.1 := by decide +kernel
theorem tyX11_ok : ∀ k, k < 10 → parseFieldDescriptor (TX11 k).2.2.1 = some (tyX11 k) := by decide +kernel
abbrev cX11_init : ByteArray := prog_1_method_1_code
def yX11_init : MethodName := ⟨RX11, "<init>", "()V"⟩
abbrev cX11_man : ByteArray := prog_1_method_2_code
def yX11_man : MethodName := ⟨RX11, "man", "(III)I"⟩
abbrev cX11_part : ByteArray := prog_1_method_3_code
def yX11_part : MethodName := ⟨RX11, "part", "(III)I"⟩
abbrev cX11_move : ByteArray := prog_1_method_4_code
def yX11_move : MethodName := ⟨RX11, "move", "(III)I"⟩
abbrev cX11_front : ByteArray := prog_1_method_5_code
def yX11_front : MethodName := ⟨RX11, "front", "(III)J"⟩
abbrev cX11_camera : ByteArray := prog_1_method_6_code
def yX11_camera : MethodName := ⟨RX11, "camera", "(III)I"⟩
abbrev cX11_frame : ByteArray := prog_1_method_7_code
def yX11_frame : MethodName := ⟨RX11, "frame", "(II)I"⟩
abbrev cX11_sees : ByteArray := prog_1_method_8_code
def yX11_sees : MethodName := ⟨RX11, "sees", "(II)J"⟩
abbrev cX11_crosser : ByteArray := prog_1_method_9_code
def yX11_crosser : MethodName := ⟨RX11, "crosser", "(II)I"⟩
abbrev cX11_feed : ByteArray := prog_1_method_10_code
def yX11_feed : MethodName := ⟨RX11, "feed", "(IJ)I"⟩
abbrev cX11_text : ByteArray := prog_1_method_11_code
def yX11_text : MethodName := ⟨RX11, "text", "()I"⟩
abbrev cX11_force : ByteArray := prog_1_method_12_code
def yX11_force : MethodName := ⟨RX11, "force", "(I)I"⟩
abbrev cX11_says : ByteArray := prog_1_method_13_code
def yX11_says : MethodName := ⟨RX11, "says", "(IIII)J"⟩
abbrev cX11_width : ByteArray := prog_1_method_14_code
def yX11_width : MethodName := ⟨RX11, "width", "(I)I"⟩
abbrev cX11_call : ByteArray := prog_1_method_15_code
def yX11_call : MethodName := ⟨RX11, "call", "(IIIII)I"⟩
abbrev cX11_told : ByteArray := prog_1_method_16_code
def yX11_told : MethodName := ⟨RX11, "told", "(II)J"⟩
abbrev cX11_offside : ByteArray := prog_1_method_17_code
def yX11_offside : MethodName := ⟨RX11, "offside", "()I"⟩
abbrev cX11_wrong : ByteArray := prog_1_method_18_code
def yX11_wrong : MethodName := ⟨RX11, "wrong", "(IIII)I"⟩
abbrev cX11_best : ByteArray := prog_1_method_19_code
def yX11_best : MethodName := ⟨RX11, "best", "(III)I"⟩
abbrev cX11_match : ByteArray := prog_1_method_20_code
def yX11_match : MethodName := ⟨RX11, "match", "(III)I"⟩
abbrev cX11_table : ByteArray := prog_1_method_21_code
def yX11_table : MethodName := ⟨RX11, "table", "(III)I"⟩
abbrev cX11_season : ByteArray := prog_1_method_22_code
def yX11_season : MethodName := ⟨RX11, "season", "(I)I"⟩
abbrev cX11_stand : ByteArray := prog_1_method_23_code
def yX11_stand : MethodName := ⟨RX11, "stand", "(III)I"⟩
abbrev cX11_shown : ByteArray := prog_1_method_24_code
def yX11_shown : MethodName := ⟨RX11, "shown", "(II)I"⟩
abbrev cX11_split : ByteArray := prog_1_method_25_code
def yX11_split : MethodName := ⟨RX11, "split", "()I"⟩
abbrev cX11_image : ByteArray := prog_1_method_26_code
def yX11_image : MethodName := ⟨RX11, "image", "()I"⟩
abbrev cX11_back : ByteArray := prog_1_method_27_code
def yX11_back : MethodName := ⟨RX11, "back", "()I"⟩
abbrev cX11_count : ByteArray := prog_1_method_28_code
def yX11_count : MethodName := ⟨RX11, "count", "(I)I"⟩
abbrev cX11_sheet : ByteArray := prog_1_method_29_code
def yX11_sheet : MethodName := ⟨RX11, "sheet", "(III)I"⟩
abbrev cX11_cell : ByteArray := prog_1_method_30_code
def yX11_cell : MethodName := ⟨RX11, "cell", "(III)I"⟩
abbrev cX11_copy : ByteArray := prog_1_method_31_code
def yX11_copy : MethodName := ⟨RX11, "copy", "(IIIII)I"⟩
abbrev cX11_men : ByteArray := prog_1_method_32_code
def yX11_men : MethodName := ⟨RX11, "men", "(IIII)I"⟩
abbrev cX11_taken : ByteArray := prog_1_method_33_code
def yX11_taken : MethodName := ⟨RX11, "taken", "(II)I"⟩
abbrev cX11_isWithin : ByteArray := prog_1_method_34_code
def yX11_isWithin : MethodName := ⟨RX11, "isWithin", "(III)Z"⟩
abbrev cX11_isSide : ByteArray := prog_1_method_35_code
def yX11_isSide : MethodName := ⟨RX11, "isSide", "(I)Z"⟩
abbrev cX11_isPlace : ByteArray := prog_1_method_36_code
def yX11_isPlace : MethodName := ⟨RX11, "isPlace", "(I)Z"⟩
abbrev cX11_isSpeed : ByteArray := prog_1_method_37_code
def yX11_isSpeed : MethodName := ⟨RX11, "isSpeed", "(I)Z"⟩
abbrev cX11_isPart : ByteArray := prog_1_method_38_code
def yX11_isPart : MethodName := ⟨RX11, "isPart", "(I)Z"⟩
abbrev cX11_isTick : ByteArray := prog_1_method_39_code
def yX11_isTick : MethodName := ⟨RX11, "isTick", "(I)Z"⟩
abbrev cX11_isWidth : ByteArray := prog_1_method_40_code
def yX11_isWidth : MethodName := ⟨RX11, "isWidth", "(I)Z"⟩
abbrev cX11_isSheet : ByteArray := prog_1_method_41_code
def yX11_isSheet : MethodName := ⟨RX11, "isSheet", "(I)Z"⟩
abbrev cX11_footIfNone : ByteArray := prog_1_method_42_code
def yX11_footIfNone : MethodName := ⟨RX11, "footIfNone", "(I)I"⟩
abbrev cX11_isUnder : ByteArray := prog_1_method_43_code
def yX11_isUnder : MethodName := ⟨RX11, "isUnder", "(II)Z"⟩
def RX12 : String := "ArmpitLineModel"
def TX12 : u_T := fun k => match k with
  | 0 => ("ArmpitLineModel", "thrown", "I", false)
  | 1 => ("ArmpitLineModel", "texts", "[I", true)
  | 2 => ("ArmpitLineModel", "textSize", "[I", true)
  | 3 => ("ArmpitLineModel", "textCount", "I", false)
  | 4 => ("ArmpitLineModel", "rule", "I", false)
  | 5 => ("ArmpitLineModel", "tape", "[I", true)
  | 6 => ("ArmpitLineModel", "taped", "I", false)
  | 7 => ("ArmpitLineModel", "side", "[I", true)
  | 8 => ("ArmpitLineModel", "place", "[I", true)
  | 9 => ("ArmpitLineModel", "speed", "[I", true)
  | 10 => ("ArmpitLineModel", "parts", "[I", true)
  | 11 => ("ArmpitLineModel", "men", "I", false)
  | 12 => ("ArmpitLineModel", "width", "I", false)
  | 13 => ("ArmpitLineModel", "from", "I", false)
  | 14 => ("ArmpitLineModel", "size", "I", false)
  | 15 => ("ArmpitLineModel", "token", "I", false)
  | 16 => ("ArmpitLineModel", "tokenAt", "I", false)
  | 17 => ("ArmpitLineModel", "tokenWorth", "J", false)
  | 18 => ("ArmpitLineModel", "here", "I", false)
  | 19 => ("ArmpitLineModel", "open", "I", false)
  | 20 => ("ArmpitLineModel", "bad", "Z", false)
  | 21 => ("ArmpitLineModel", "fault", "I", false)
  | 22 => ("ArmpitLineModel", "aboutMan", "I", false)
  | 23 => ("ArmpitLineModel", "aboutPart", "I", false)
  | 24 => ("ArmpitLineModel", "aboutTick", "I", false)
  | 25 => ("ArmpitLineModel", "lessSide", "I", false)
  | 26 => ("ArmpitLineModel", "less", "I", false)
  | 27 => ("ArmpitLineModel", "anyCounts", "Z", false)
  | 28 => ("ArmpitLineModel", "every", "[I", true)
  | 29 => ("ArmpitLineModel", "first", "[I", true)
  | 30 => ("ArmpitLineModel", "slant", "[I", true)
  | 31 => ("ArmpitLineModel", "cameras", "I", false)
  | 32 => ("ArmpitLineModel", "lean", "[I", true)
  | 33 => ("ArmpitLineModel", "spread", "[I", true)
  | 34 => ("ArmpitLineModel", "crossers", "I", false)
  | 35 => ("ArmpitLineModel", "kind", "[I", true)
  | 36 => ("ArmpitLineModel", "attacks", "[I", true)
  | 37 => ("ArmpitLineModel", "defends", "[I", true)
  | 38 => ("ArmpitLineModel", "tickOf", "[I", true)
  | 39 => ("ArmpitLineModel", "byCamera", "[I", true)
  | 40 => ("ArmpitLineModel", "byCrosser", "[I", true)
  | 41 => ("ArmpitLineModel", "calls", "I", false)
  | 42 => ("ArmpitLineModel", "home", "[I", true)
  | 43 => ("ArmpitLineModel", "away", "[I", true)
  | 44 => ("ArmpitLineModel", "homeGoals", "[I", true)
  | 45 => ("ArmpitLineModel", "awayGoals", "[I", true)
  | 46 => ("ArmpitLineModel", "goalCalls", "[I", true)
  | 47 => ("ArmpitLineModel", "matches", "I", false)
  | 48 => ("ArmpitLineModel", "points", "[I", true)
  | 49 => ("ArmpitLineModel", "goalsFor", "[I", true)
  | 50 => ("ArmpitLineModel", "goalsAgainst", "[I", true)
  | 51 => ("ArmpitLineModel", "marks", "[I", true)
  | 52 => ("ArmpitLineModel", "words", "[I", true)
  | 53 => ("ArmpitLineModel", "cases", "I", false)
  | 54 => ("ArmpitLineModel", "image", "[I", true)
  | 55 => ("ArmpitLineModel", "hasImage", "Z", false)
  | 56 => ("ArmpitLineModel", "imageMen", "I", false)
  | 57 => ("ArmpitLineModel", "imageWidth", "I", false)
  | 58 => ("ArmpitLineModel", "imageRule", "I", false)
  | 59 => ("ArmpitLineModel", "isThere", "[Z", true)
  | 60 => ("ArmpitLineModel", "sorts", "[I", true)
  | 61 => ("ArmpitLineModel", "sheetSize", "[I", true)
  | _ => ("ArmpitLineModel", "items", "[I", true)
def tyX12 : Nat → FieldType := fun k => match k with
  | 0 => .int
  | 1 => .array .int
  | 2 => .array .int
  | 3 => .int
  | 4 => .int
  | 5 => .array .int
  | 6 => .int
  | 7 => .array .int
  | 8 => .array .int
  | 9 => .array .int
  | 10 => .array .int
  | 11 => .int
  | 12 => .int
  | 13 => .int
  | 14 => .int
  | 15 => .int
  | 16 => .int
  | 17 => .long
  | 18 => .int
  | 19 => .int
  | 20 => .boolean
  | 21 => .int
  | 22 => .int
  | 23 => .int
  | 24 => .int
  | 25 => .int
  | 26 => .int
  | 27 => .boolean
  | 28 => .array .int
  | 29 => .array .int
  | 30 => .array .int
  | 31 => .int
  | 32 => .array .int
  | 33 => .array .int
  | 34 => .int
  | 35 => .array .int
  | 36 => .array .int
  | 37 => .array .int
  | 38 => .array .int
  | 39 => .array .int
  | 40 => .array .int
  | 41 => .int
  | 42 => .array .int
  | 43 => .array .int
  | 44 => .array .int
  | 45 => .array .int
  | 46 => .array .int
  | 47 => .int
  | 48 => .array .int
  | 49 => .array .int
  | 50 => .array .int
  | 51 => .array .int
  | 52 => .array .int
  | 53 => .int
  | 54 => .array .int
  | 55 => .boolean
  | 56 => .int
  | 57 => .int
  | 58 => .int
  | 59 => .array .boolean
  | 60 => .array .int
  | 61 => .array .int
  | _ => .array .int
abbrev wsX120 : List Cond := u_ws RX12 TX12 63
theorem nmX12 : ∀ a, a < 63 → ∀ b, b < 63 → a ≠ b → (TX12 a).2.1 ≠ (TX12 b).2.1 := by decide +kernel
theorem tyX12_ok : ∀ k, k < 63 → parseFieldDescriptor (TX12 k).2.2.1 = some (tyX12 k) := by decide +kernel
abbrev cX12_in : ByteArray := prog_14_method_2_code
def yX12_in : MethodName := ⟨RX12, "in", "(JJJ)Z"⟩
abbrev cX12_init : ByteArray := prog_14_method_3_code
def yX12_init : MethodName := ⟨RX12, "<init>", "()V"⟩
abbrev cX12_spell : ByteArray := prog_14_method_4_code
def yX12_spell : MethodName := ⟨RX12, "spell", "(IJ)V"⟩
abbrev cX12_isMan : ByteArray := prog_14_method_5_code
def yX12_isMan : MethodName := ⟨RX12, "isMan", "(I)Z"⟩
abbrev cX12_isTick : ByteArray := prog_14_method_6_code
def yX12_isTick : MethodName := ⟨RX12, "isTick", "(I)Z"⟩
abbrev cX12_isWidth : ByteArray := prog_14_method_7_code
def yX12_isWidth : MethodName := ⟨RX12, "isWidth", "(I)Z"⟩
abbrev cX12_man : ByteArray := prog_14_method_8_code
def yX12_man : MethodName := ⟨RX12, "man", "(III)I"⟩
abbrev cX12_part : ByteArray := prog_14_method_9_code
def yX12_part : MethodName := ⟨RX12, "part", "(III)I"⟩
abbrev cX12_move : ByteArray := prog_14_method_10_code
def yX12_move : MethodName := ⟨RX12, "move", "(III)I"⟩
abbrev cX12_feed : ByteArray := prog_14_method_11_code
def yX12_feed : MethodName := ⟨RX12, "feed", "(IJ)I"⟩
abbrev cX12_byteAt : ByteArray := prog_14_method_12_code
def yX12_byteAt : MethodName := ⟨RX12, "byteAt", "(I)I"⟩
abbrev cX12_next : ByteArray := prog_14_method_13_code
def yX12_next : MethodName := ⟨RX12, "next", "()V"⟩
abbrev cX12_fail : ByteArray := prog_14_method_14_code
def yX12_fail : MethodName := ⟨RX12, "fail", "()V"⟩
abbrev cX12_isWord : ByteArray := prog_14_method_15_code
def yX12_isWord : MethodName := ⟨RX12, "isWord", "(J)Z"⟩
abbrev cX12_isSign : ByteArray := prog_14_method_16_code
def yX12_isSign : MethodName := ⟨RX12, "isSign", "(I)Z"⟩
abbrev cX12_opens : ByteArray := prog_14_method_17_code
def yX12_opens : MethodName := ⟨RX12, "opens", "()Z"⟩
abbrev cX12_name : ByteArray := prog_14_method_18_code
def yX12_name : MethodName := ⟨RX12, "name", "()I"⟩
abbrev cX12_one : ByteArray := prog_14_method_19_code
def yX12_one : MethodName := ⟨RX12, "one", "()I"⟩
abbrev cX12_term : ByteArray := prog_14_method_20_code
def yX12_term : MethodName := ⟨RX12, "term", "()I"⟩
abbrev cX12_added : ByteArray := prog_14_method_21_code
def yX12_added : MethodName := ⟨RX12, "added", "()I"⟩
abbrev cX12_not : ByteArray := prog_14_method_22_code
def yX12_not : MethodName := ⟨RX12, "not", "()I"⟩
abbrev cX12_both : ByteArray := prog_14_method_23_code
def yX12_both : MethodName := ⟨RX12, "both", "()I"⟩
abbrev cX12_either : ByteArray := prog_14_method_24_code
def yX12_either : MethodName := ⟨RX12, "either", "()I"⟩
abbrev cX12_section : ByteArray := prog_14_method_25_code
def yX12_section : MethodName := ⟨RX12, "section", "(J)I"⟩
abbrev cX12_read : ByteArray := prog_14_method_26_code
def yX12_read : MethodName := ⟨RX12, "read", "(IIIII)I"⟩
abbrev cX12_text : ByteArray := prog_14_method_27_code
def yX12_text : MethodName := ⟨RX12, "text", "()I"⟩
abbrev cX12_force : ByteArray := prog_14_method_28_code
def yX12_force : MethodName := ⟨RX12, "force", "(I)I"⟩
abbrev cX12_says : ByteArray := prog_14_method_29_code
def yX12_says : MethodName := ⟨RX12, "says", "(IIII)J"⟩
abbrev cX12_width : ByteArray := prog_14_method_30_code
def yX12_width : MethodName := ⟨RX12, "width", "(I)I"⟩
abbrev cX12_whereOf : ByteArray := prog_14_method_31_code
def yX12_whereOf : MethodName := ⟨RX12, "whereOf", "(II)I"⟩
abbrev cX12_foremost : ByteArray := prog_14_method_32_code
def yX12_foremost : MethodName := ⟨RX12, "foremost", "(II)I"⟩
abbrev cX12_frontOf : ByteArray := prog_14_method_33_code
def yX12_frontOf : MethodName := ⟨RX12, "frontOf", "(II)I"⟩
abbrev cX12_front : ByteArray := prog_14_method_34_code
def yX12_front : MethodName := ⟨RX12, "front", "(III)J"⟩
abbrev cX12_camera : ByteArray := prog_14_method_35_code
def yX12_camera : MethodName := ⟨RX12, "camera", "(III)I"⟩
abbrev cX12_frameOf : ByteArray := prog_14_method_36_code
def yX12_frameOf : MethodName := ⟨RX12, "frameOf", "(II)I"⟩
abbrev cX12_frame : ByteArray := prog_14_method_37_code
def yX12_frame : MethodName := ⟨RX12, "frame", "(II)I"⟩
abbrev cX12_seen : ByteArray := prog_14_method_38_code
def yX12_seen : MethodName := ⟨RX12, "seen", "(II)I"⟩
abbrev cX12_sees : ByteArray := prog_14_method_39_code
def yX12_sees : MethodName := ⟨RX12, "sees", "(II)J"⟩
abbrev cX12_crosser : ByteArray := prog_14_method_40_code
def yX12_crosser : MethodName := ⟨RX12, "crosser", "(II)I"⟩
abbrev cX12_call : ByteArray := prog_14_method_41_code
def yX12_call : MethodName := ⟨RX12, "call", "(IIIII)I"⟩
abbrev cX12_isCall : ByteArray := prog_14_method_42_code
def yX12_isCall : MethodName := ⟨RX12, "isCall", "(I)Z"⟩
abbrev cX12_trueMargin : ByteArray := prog_14_method_43_code
def yX12_trueMargin : MethodName := ⟨RX12, "trueMargin", "(II)I"⟩
abbrev cX12_crossed : ByteArray := prog_14_method_44_code
def yX12_crossed : MethodName := ⟨RX12, "crossed", "(IIIZ)I"⟩
abbrev cX12_marginBy : ByteArray := prog_14_method_45_code
def yX12_marginBy : MethodName := ⟨RX12, "marginBy", "(II)I"⟩
abbrev cX12_nearOf : ByteArray := prog_14_method_46_code
def yX12_nearOf : MethodName := ⟨RX12, "nearOf", "(I)I"⟩
abbrev cX12_bandBy : ByteArray := prog_14_method_47_code
def yX12_bandBy : MethodName := ⟨RX12, "bandBy", "(II)I"⟩
abbrev cX12_isAhead : ByteArray := prog_14_method_48_code
def yX12_isAhead : MethodName := ⟨RX12, "isAhead", "(II)Z"⟩
abbrev cX12_isOffside : ByteArray := prog_14_method_49_code
def yX12_isOffside : MethodName := ⟨RX12, "isOffside", "(II)Z"⟩
abbrev cX12_spreadOf : ByteArray := prog_14_method_50_code
def yX12_spreadOf : MethodName := ⟨RX12, "spreadOf", "(I)I"⟩
abbrev cX12_waysOf : ByteArray := prog_14_method_51_code
def yX12_waysOf : MethodName := ⟨RX12, "waysOf", "(I)I"⟩
abbrev cX12_turnsOf : ByteArray := prog_14_method_52_code
def yX12_turnsOf : MethodName := ⟨RX12, "turnsOf", "(I)I"⟩
abbrev cX12_told : ByteArray := prog_14_method_53_code
def yX12_told : MethodName := ⟨RX12, "told", "(II)J"⟩
abbrev cX12_offsides : ByteArray := prog_14_method_54_code
def yX12_offsides : MethodName := ⟨RX12, "offsides", "(I)I"⟩
abbrev cX12_all : ByteArray := prog_14_method_55_code
def yX12_all : MethodName := ⟨RX12, "all", "()I"⟩
abbrev cX12_offside : ByteArray := prog_14_method_56_code
def yX12_offside : MethodName := ⟨RX12, "offside", "()I"⟩
abbrev cX12_widths : ByteArray := prog_14_method_57_code
def yX12_widths : MethodName := ⟨RX12, "widths", "(I)I"⟩
abbrev cX12_wrongs : ByteArray := prog_14_method_58_code
def yX12_wrongs : MethodName := ⟨RX12, "wrongs", "(III)I"⟩
abbrev cX12_wrong : ByteArray := prog_14_method_59_code
def yX12_wrong : MethodName := ⟨RX12, "wrong", "(IIII)I"⟩
abbrev cX12_best : ByteArray := prog_14_method_60_code
def yX12_best : MethodName := ⟨RX12, "best", "(III)I"⟩
abbrev cX12_match : ByteArray := prog_14_method_61_code
def yX12_match : MethodName := ⟨RX12, "match", "(III)I"⟩
abbrev cX12_counts : ByteArray := prog_14_method_62_code
def yX12_counts : MethodName := ⟨RX12, "counts", "(III)V"⟩
abbrev cX12_tables : ByteArray := prog_14_method_63_code
def yX12_tables : MethodName := ⟨RX12, "tables", "(I)V"⟩
abbrev cX12_isAbove : ByteArray := prog_14_method_64_code
def yX12_isAbove : MethodName := ⟨RX12, "isAbove", "(II)Z"⟩
abbrev cX12_rankOf : ByteArray := prog_14_method_65_code
def yX12_rankOf : MethodName := ⟨RX12, "rankOf", "(I)I"⟩
abbrev cX12_table : ByteArray := prog_14_method_66_code
def yX12_table : MethodName := ⟨RX12, "table", "(III)I"⟩
abbrev cX12_ranks : ByteArray := prog_14_method_67_code
def yX12_ranks : MethodName := ⟨RX12, "ranks", "(I)I"⟩
abbrev cX12_season : ByteArray := prog_14_method_68_code
def yX12_season : MethodName := ⟨RX12, "season", "(I)I"⟩
abbrev cX12_stand : ByteArray := prog_14_method_69_code
def yX12_stand : MethodName := ⟨RX12, "stand", "(III)I"⟩
abbrev cX12_shown : ByteArray := prog_14_method_70_code
def yX12_shown : MethodName := ⟨RX12, "shown", "(II)I"⟩
abbrev cX12_bitsOf : ByteArray := prog_14_method_71_code
def yX12_bitsOf : MethodName := ⟨RX12, "bitsOf", "(I)I"⟩
abbrev cX12_split : ByteArray := prog_14_method_72_code
def yX12_split : MethodName := ⟨RX12, "split", "()I"⟩
abbrev cX12_image : ByteArray := prog_14_method_73_code
def yX12_image : MethodName := ⟨RX12, "image", "()I"⟩
abbrev cX12_back : ByteArray := prog_14_method_74_code
def yX12_back : MethodName := ⟨RX12, "back", "()I"⟩
abbrev cX12_count : ByteArray := prog_14_method_75_code
def yX12_count : MethodName := ⟨RX12, "count", "(I)I"⟩
abbrev cX12_isSheet : ByteArray := prog_14_method_76_code
def yX12_isSheet : MethodName := ⟨RX12, "isSheet", "(I)Z"⟩
abbrev cX12_sheet : ByteArray := prog_14_method_77_code
def yX12_sheet : MethodName := ⟨RX12, "sheet", "(III)I"⟩
abbrev cX12_cell : ByteArray := prog_14_method_78_code
def yX12_cell : MethodName := ⟨RX12, "cell", "(III)I"⟩
abbrev cX12_copy : ByteArray := prog_14_method_79_code
def yX12_copy : MethodName := ⟨RX12, "copy", "(IIIII)I"⟩
abbrev cX12_men : ByteArray := prog_14_method_80_code
def yX12_men : MethodName := ⟨RX12, "men", "(IIII)I"⟩
abbrev cX12_over : ByteArray := prog_14_method_81_code
def yX12_over : MethodName := ⟨RX12, "over", "(I)I"⟩
abbrev cX12_taken : ByteArray := prog_14_method_82_code
def yX12_taken : MethodName := ⟨RX12, "taken", "(II)I"⟩
def RJ6 : String := "java/lang/Integer"
def TJ6 : u_T := fun k => match k with
  | _ => ("", "", "", false)
def tyJ6 : Nat → FieldType := fun k => match k with
  | _ => .int
abbrev wsJ60 : List Cond := u_ws RJ6 TJ6 0
theorem nmJ6 : ∀ a, a < 0 → ∀ b, b < 0 → a ≠ b → (TJ6 a).2.1 ≠ (TJ6 b).2.1 := by decide +kernel
theorem tyJ6_ok : ∀ k, k < 0 → parseFieldDescriptor (TJ6 k).2.2.1 = some (tyJ6 k) := by decide +kernel
abbrev cJ6_bitCount_0f7a4 : ByteArray := prog_15_method_49_code
def yJ6_bitCount_0f7a4 : MethodName := ⟨RJ6, "bitCount", "(I)I"⟩
def RJ9 : String := "java/lang/Math"
def TJ9 : u_T := fun k => match k with
  | _ => ("", "", "", false)
def tyJ9 : Nat → FieldType := fun k => match k with
  | _ => .int
abbrev wsJ90 : List Cond := u_ws RJ9 TJ9 0
theorem nmJ9 : ∀ a, a < 0 → ∀ b, b < 0 → a ≠ b → (TJ9 a).2.1 ≠ (TJ9 b).2.1 := by decide +kernel
theorem tyJ9_ok : ∀ k, k < 0 → parseFieldDescriptor (TJ9 k).2.2.1 = some (tyJ9 k) := by decide +kernel
abbrev cJ9_max_7cf53 : ByteArray := prog_16_method_65_code
def yJ9_max_7cf53 : MethodName := ⟨RJ9, "max", "(II)I"⟩
abbrev cJ9_min_7cf53 : ByteArray := prog_16_method_69_code
def yJ9_min_7cf53 : MethodName := ⟨RJ9, "min", "(II)I"⟩
def RJ0 : String := "java/lang/String"
def TJ0 : u_T := fun k => match k with
  | _ => ("", "", "", false)
def tyJ0 : Nat → FieldType := fun k => match k with
  | _ => .int
abbrev wsJ00 : List Cond := u_ws RJ0 TJ0 0
theorem nmJ0 : ∀ a, a < 0 → ∀ b, b < 0 → a ≠ b → (TJ0 a).2.1 ≠ (TJ0 b).2.1 := by decide +kernel
theorem tyJ0_ok : ∀ k, k < 0 → parseFieldDescriptor (TJ0 k).2.2.1 = some (tyJ0 k) := by decide +kernel
abbrev cJ0_length_8abf5 : ByteArray := prog_17_method_54_code
def yJ0_length_8abf5 : MethodName := ⟨RJ0, "length", "()I"⟩
abbrev cJ0_charAt_5068e : ByteArray := prog_17_method_56_code
def yJ0_charAt_5068e : MethodName := ⟨RJ0, "charAt", "(I)C"⟩
abbrev cJ0_coder_7d493 : ByteArray := prog_17_method_152_code
def yJ0_coder_7d493 : MethodName := ⟨RJ0, "coder", "()B"⟩
abbrev cJ0_isLatin1_aae02 : ByteArray := prog_17_method_154_code
def yJ0_isLatin1_aae02 : MethodName := ⟨RJ0, "isLatin1", "()Z"⟩
abbrev cJ0_checkIndex_df160 : ByteArray := prog_17_method_155_code
def yJ0_checkIndex_df160 : MethodName := ⟨RJ0, "checkIndex", "(II)V"⟩
def RJ1 : String := "java/lang/StringLatin1"
def TJ1 : u_T := fun k => match k with
  | _ => ("", "", "", false)
def tyJ1 : Nat → FieldType := fun k => match k with
  | _ => .int
abbrev wsJ10 : List Cond := u_ws RJ1 TJ1 0
theorem nmJ1 : ∀ a, a < 0 → ∀ b, b < 0 → a ≠ b → (TJ1 a).2.1 ≠ (TJ1 b).2.1 := by decide +kernel
theorem tyJ1_ok : ∀ k, k < 0 → parseFieldDescriptor (TJ1 k).2.2.1 = some (tyJ1 k) := by decide +kernel
abbrev cJ1_charAt_3b067 : ByteArray := prog_18_method_2_code
def yJ1_charAt_3b067 : MethodName := ⟨RJ1, "charAt", "([BI)C"⟩
def RJ2 : String := "java/lang/StringUTF16"
def TJ2 : u_T := fun k => match k with
  | _ => ("", "", "", false)
def tyJ2 : Nat → FieldType := fun k => match k with
  | _ => .int
abbrev wsJ20 : List Cond := u_ws RJ2 TJ2 0
theorem nmJ2 : ∀ a, a < 0 → ∀ b, b < 0 → a ≠ b → (TJ2 a).2.1 ≠ (TJ2 b).2.1 := by decide +kernel
theorem tyJ2_ok : ∀ k, k < 0 → parseFieldDescriptor (TJ2 k).2.2.1 = some (tyJ2 k) := by decide +kernel
abbrev cJ2_getChar_3b067 : ByteArray := prog_19_method_5_code
def yJ2_getChar_3b067 : MethodName := ⟨RJ2, "getChar", "([BI)C"⟩
abbrev cJ2_length_9d52b : ByteArray := prog_19_method_6_code
def yJ2_length_9d52b : MethodName := ⟨RJ2, "length", "([B)I"⟩
abbrev cJ2_charAt_3b067 : ByteArray := prog_19_method_83_code
def yJ2_charAt_3b067 : MethodName := ⟨RJ2, "charAt", "([BI)C"⟩
abbrev cJ2_checkIndex_2214a : ByteArray := prog_19_method_91_code
def yJ2_checkIndex_2214a : MethodName := ⟨RJ2, "checkIndex", "(I[B)V"⟩
def RJ10 : String := "java/lang/System"
def TJ10 : u_T := fun k => match k with
  | _ => ("", "", "", false)
def tyJ10 : Nat → FieldType := fun k => match k with
  | _ => .int
abbrev wsJ100 : List Cond := u_ws RJ10 TJ10 0
theorem nmJ10 : ∀ a, a < 0 → ∀ b, b < 0 → a ≠ b → (TJ10 a).2.1 ≠ (TJ10 b).2.1 := by decide +kernel
theorem tyJ10_ok : ∀ k, k < 0 → parseFieldDescriptor (TJ10 k).2.2.1 = some (tyJ10 k) := by decide +kernel
def RJ3 : String := "jdk/internal/util/Preconditions"
def TJ3 : u_T := fun k => match k with
  | _ => ("", "", "", false)
def tyJ3 : Nat → FieldType := fun k => match k with
  | _ => .int
abbrev wsJ30 : List Cond := u_ws RJ3 TJ3 0
theorem nmJ3 : ∀ a, a < 0 → ∀ b, b < 0 → a ≠ b → (TJ3 a).2.1 ≠ (TJ3 b).2.1 := by decide +kernel
theorem tyJ3_ok : ∀ k, k < 0 → parseFieldDescriptor (TJ3 k).2.2.1 = some (tyJ3 k) := by decide +kernel
abbrev cJ3_checkIndex_8e157 : ByteArray := prog_21_method_11_code
def yJ3_checkIndex_8e157 : MethodName := ⟨RJ3, "checkIndex", "(IILjava/util/function/BiFunction;)I"⟩
def RL : String := "ArmpitLineLaw"
abbrev cL_law : ByteArray := code
def yL_law : MethodName := ⟨RL, "law", "([I)Z"⟩
abbrev vwCl : List vw_C := [(RX0, TX0, 8), (RX1, TX1, 4), (RX2, TX2, 4), (RX3, TX3, 3), (RX4, TX4, 8), (RX5, TX5, 10), (RX6, TX6, 5), (RX7, TX7, 3), (RX8, TX8, 5), (RX9, TX9, 6), (RX10, TX10, 7), (RX11, TX11, 10), (RX12, TX12, 63)]
end
section
theorem dX0_init_0 : decode cX0_init 0 = .ok (.aload_n 0, 1) := by decide +kernel
theorem dX0_init_1 : decode cX0_init 1 = .ok (.invokespecial 3, 3) := by decide +kernel
theorem dX0_init_4 : decode cX0_init 4 = .ok (.aload_n 0, 1) := by decide +kernel
theorem dX0_init_5 : decode cX0_init 5 = .ok (.bipush 24, 2) := by decide +kernel
theorem dX0_init_7 : decode cX0_init 7 = .ok (.newarray .int, 2) := by decide +kernel
theorem dX0_init_9 : decode cX0_init 9 = .ok (.putfield 9, 3) := by decide +kernel
theorem dX0_init_12 : decode cX0_init 12 = .ok (.aload_n 0, 1) := by decide +kernel
theorem dX0_init_13 : decode cX0_init 13 = .ok (.bipush 24, 2) := by decide +kernel
theorem dX0_init_15 : decode cX0_init 15 = .ok (.newarray .int, 2) := by decide +kernel
theorem dX0_init_17 : decode cX0_init 17 = .ok (.putfield 15, 3) := by decide +kernel
theorem dX0_init_20 : decode cX0_init 20 = .ok (.aload_n 0, 1) := by decide +kernel
theorem dX0_init_21 : decode cX0_init 21 = .ok (.bipush 24, 2) := by decide +kernel
theorem dX0_init_23 : decode cX0_init 23 = .ok (.newarray .int, 2) := by decide +kernel
theorem dX0_init_25 : decode cX0_init 25 = .ok (.putfield 18, 3) := by decide +kernel
theorem dX0_init_28 : decode cX0_init 28 = .ok (.aload_n 0, 1) := by decide +kernel
theorem dX0_init_29 : decode cX0_init 29 = .ok (.bipush 24, 2) := by decide +kernel
theorem dX0_init_31 : decode cX0_init 31 = .ok (.newarray .int, 2) := by decide +kernel
theorem dX0_init_33 : decode cX0_init 33 = .ok (.putfield 21, 3) := by decide +kernel
theorem dX0_init_36 : decode cX0_init 36 = .ok (.aload_n 0, 1) := by decide +kernel
theorem dX0_init_37 : decode cX0_init 37 = .ok (.bipush 24, 2) := by decide +kernel
theorem dX0_init_39 : decode cX0_init 39 = .ok (.newarray .int, 2) := by decide +kernel
theorem dX0_init_41 : decode cX0_init 41 = .ok (.putfield 24, 3) := by decide +kernel
theorem dX0_init_44 : decode cX0_init 44 = .ok (.aload_n 0, 1) := by decide +kernel
theorem dX0_init_45 : decode cX0_init 45 = .ok (.bipush 24, 2) := by decide +kernel
theorem dX0_init_47 : decode cX0_init 47 = .ok (.newarray .int, 2) := by decide +kernel
theorem dX0_init_49 : decode cX0_init 49 = .ok (.putfield 27, 3) := by decide +kernel
theorem dX0_init_52 : decode cX0_init 52 = .ok (.aload_n 0, 1) := by decide +kernel
theorem dX0_init_53 : decode cX0_init 53 = .ok (.bipush 24, 2) := by decide +kernel
theorem dX0_init_55 : decode cX0_init 55 = .ok (.newarray .int, 2) := by decide +kernel
theorem dX0_init_57 : decode cX0_init 57 = .ok (.putfield 30, 3) := by decide +kernel
theorem dX0_init_60 : decode cX0_init 60 = .ok (.return_, 1) := by decide +kernel
theorem dX0_has_0 : decode cX0_has 0 = .ok (.iload_n 1, 1) := by decide +kernel
theorem dX0_has_1 : decode cX0_has 1 = .ok (.ifCond .lt 15, 3) := by decide +kernel
theorem dX0_has_4 : decode cX0_has 4 = .ok (.iload_n 1, 1) := by decide +kernel
theorem dX0_has_5 : decode cX0_has 5 = .ok (.aload_n 0, 1) := by decide +kernel
theorem dX0_has_6 : decode cX0_has 6 = .ok (.getfield 33, 3) := by decide +kernel
theorem dX0_has_9 : decode cX0_has 9 = .ok (.if_icmp .ge 7, 3) := by decide +kernel
theorem dX0_has_12 : decode cX0_has 12 = .ok (.iconst 1, 1) := by decide +kernel
theorem dX0_has_13 : decode cX0_has 13 = .ok (.goto 4, 3) := by decide +kernel
theorem dX0_has_16 : decode cX0_has 16 = .ok (.iconst 0, 1) := by decide +kernel
theorem dX0_has_17 : decode cX0_has 17 = .ok (.ireturn, 1) := by decide +kernel
theorem dX0_all_0 : decode cX0_all 0 = .ok (.iconst 1, 1) := by decide +kernel
theorem dX0_all_1 : decode cX0_all 1 = .ok (.aload_n 0, 1) := by decide +kernel
theorem dX0_all_2 : decode cX0_all 2 = .ok (.getfield 33, 3) := by decide +kernel
theorem dX0_all_5 : decode cX0_all 5 = .ok (.ishl, 1) := by decide +kernel
theorem dX0_all_6 : decode cX0_all 6 = .ok (.iconst 1, 1) := by decide +kernel
theorem dX0_all_7 : decode cX0_all 7 = .ok (.isub, 1) := by decide +kernel
theorem dX0_all_8 : decode cX0_all 8 = .ok (.ireturn, 1) := by decide +kernel
theorem dX0_hasAll_0 : decode cX0_hasAll 0 = .ok (.iload_n 1, 1) := by decide +kernel
theorem dX0_hasAll_1 : decode cX0_hasAll 1 = .ok (.ifCond .lt 15, 3) := by decide +kernel
theorem dX0_hasAll_4 : decode cX0_hasAll 4 = .ok (.iload_n 1, 1) := by decide +kernel
theorem dX0_hasAll_5 : decode cX0_hasAll 5 = .ok (.aload_n 0, 1) := by decide +kernel
theorem dX0_hasAll_6 : decode cX0_hasAll 6 = .ok (.invokevirtual 37, 3) := by decide +kernel
theorem dX0_hasAll_9 : decode cX0_hasAll 9 = .ok (.if_icmp .gt 7, 3) := by decide +kernel
theorem dX0_hasAll_12 : decode cX0_hasAll 12 = .ok (.iconst 1, 1) := by decide +kernel
theorem dX0_hasAll_13 : decode cX0_hasAll 13 = .ok (.goto 4, 3) := by decide +kernel
theorem dX0_hasAll_16 : decode cX0_hasAll 16 = .ok (.iconst 0, 1) := by decide +kernel
theorem dX0_hasAll_17 : decode cX0_hasAll 17 = .ok (.ireturn, 1) := by decide +kernel
theorem dX0_attackedBy_0 : decode cX0_attackedBy 0 = .ok (.iconst 0, 1) := by decide +kernel
theorem dX0_attackedBy_1 : decode cX0_attackedBy 1 = .ok (.istore_n 3, 1) := by decide +kernel
theorem dX0_attackedBy_2 : decode cX0_attackedBy 2 = .ok (.iconst 0, 1) := by decide +kernel
theorem dX0_attackedBy_3 : decode cX0_attackedBy 3 = .ok (.istore 4, 2) := by decide +kernel
theorem dX0_attackedBy_5 : decode cX0_attackedBy 5 = .ok (.iload 4, 2) := by decide +kernel
theorem dX0_attackedBy_7 : decode cX0_attackedBy 7 = .ok (.aload_n 0, 1) := by decide +kernel
theorem dX0_attackedBy_8 : decode cX0_attackedBy 8 = .ok (.getfield 33, 3) := by decide +kernel
theorem dX0_attackedBy_11 : decode cX0_attackedBy 11 = .ok (.if_icmp .ge 37, 3) := by decide +kernel
theorem dX0_attackedBy_14 : decode cX0_attackedBy 14 = .ok (.iload_n 2, 1) := by decide +kernel
theorem dX0_attackedBy_15 : decode cX0_attackedBy 15 = .ok (.iload 4, 2) := by decide +kernel
theorem dX0_attackedBy_17 : decode cX0_attackedBy 17 = .ok (.ishr, 1) := by decide +kernel
theorem dX0_attackedBy_18 : decode cX0_attackedBy 18 = .ok (.iconst 1, 1) := by decide +kernel
theorem dX0_attackedBy_19 : decode cX0_attackedBy 19 = .ok (.iand, 1) := by decide +kernel
theorem dX0_attackedBy_20 : decode cX0_attackedBy 20 = .ok (.iconst 1, 1) := by decide +kernel
theorem dX0_attackedBy_21 : decode cX0_attackedBy 21 = .ok (.if_icmp .ne 21, 3) := by decide +kernel
theorem dX0_attackedBy_24 : decode cX0_attackedBy 24 = .ok (.aload_n 0, 1) := by decide +kernel
theorem dX0_attackedBy_25 : decode cX0_attackedBy 25 = .ok (.getfield 30, 3) := by decide +kernel
theorem dX0_attackedBy_28 : decode cX0_attackedBy 28 = .ok (.iload 4, 2) := by decide +kernel
theorem dX0_attackedBy_30 : decode cX0_attackedBy 30 = .ok (.iaload, 1) := by decide +kernel
theorem dX0_attackedBy_31 : decode cX0_attackedBy 31 = .ok (.iload_n 1, 1) := by decide +kernel
theorem dX0_attackedBy_32 : decode cX0_attackedBy 32 = .ok (.if_icmp .ne 10, 3) := by decide +kernel
theorem dX0_attackedBy_35 : decode cX0_attackedBy 35 = .ok (.iload_n 3, 1) := by decide +kernel
theorem dX0_attackedBy_36 : decode cX0_attackedBy 36 = .ok (.iconst 1, 1) := by decide +kernel
theorem dX0_attackedBy_37 : decode cX0_attackedBy 37 = .ok (.iload 4, 2) := by decide +kernel
theorem dX0_attackedBy_39 : decode cX0_attackedBy 39 = .ok (.ishl, 1) := by decide +kernel
theorem dX0_attackedBy_40 : decode cX0_attackedBy 40 = .ok (.ior, 1) := by decide +kernel
theorem dX0_attackedBy_41 : decode cX0_attackedBy 41 = .ok (.istore_n 3, 1) := by decide +kernel
theorem dX0_attackedBy_42 : decode cX0_attackedBy 42 = .ok (.iinc 4 1, 3) := by decide +kernel
theorem dX0_attackedBy_45 : decode cX0_attackedBy 45 = .ok (.goto (-40), 3) := by decide +kernel
theorem dX0_attackedBy_48 : decode cX0_attackedBy 48 = .ok (.iload_n 3, 1) := by decide +kernel
theorem dX0_attackedBy_49 : decode cX0_attackedBy 49 = .ok (.ireturn, 1) := by decide +kernel
theorem dX0_add_0 : decode cX0_add 0 = .ok (.aload_n 0, 1) := by decide +kernel
theorem dX0_add_1 : decode cX0_add 1 = .ok (.getfield 33, 3) := by decide +kernel
theorem dX0_add_4 : decode cX0_add 4 = .ok (.bipush 24, 2) := by decide +kernel
theorem dX0_add_6 : decode cX0_add 6 = .ok (.if_icmp .lt 6, 3) := by decide +kernel
theorem dX0_add_9 : decode cX0_add 9 = .ok (.bipush (-4), 2) := by decide +kernel
theorem dX0_add_11 : decode cX0_add 11 = .ok (.ireturn, 1) := by decide +kernel
theorem dX0_add_12 : decode cX0_add 12 = .ok (.aload_n 0, 1) := by decide +kernel
theorem dX0_add_13 : decode cX0_add 13 = .ok (.getfield 9, 3) := by decide +kernel
theorem dX0_add_16 : decode cX0_add 16 = .ok (.aload_n 0, 1) := by decide +kernel
theorem dX0_add_17 : decode cX0_add 17 = .ok (.getfield 33, 3) := by decide +kernel
theorem dX0_add_20 : decode cX0_add 20 = .ok (.iload_n 1, 1) := by decide +kernel
theorem dX0_add_21 : decode cX0_add 21 = .ok (.iastore, 1) := by decide +kernel
theorem dX0_add_22 : decode cX0_add 22 = .ok (.aload_n 0, 1) := by decide +kernel
theorem dX0_add_23 : decode cX0_add 23 = .ok (.getfield 15, 3) := by decide +kernel
theorem dX0_add_26 : decode cX0_add 26 = .ok (.aload_n 0, 1) := by decide +kernel
theorem dX0_add_27 : decode cX0_add 27 = .ok (.getfield 33, 3) := by decide +kernel
theorem dX0_add_30 : decode cX0_add 30 = .ok (.iload_n 2, 1) := by decide +kernel
theorem dX0_add_31 : decode cX0_add 31 = .ok (.iastore, 1) := by decide +kernel
theorem dX0_add_32 : decode cX0_add 32 = .ok (.aload_n 0, 1) := by decide +kernel
theorem dX0_add_33 : decode cX0_add 33 = .ok (.getfield 18, 3) := by decide +kernel
theorem dX0_add_36 : decode cX0_add 36 = .ok (.aload_n 0, 1) := by decide +kernel
theorem dX0_add_37 : decode cX0_add 37 = .ok (.getfield 33, 3) := by decide +kernel
theorem dX0_add_40 : decode cX0_add 40 = .ok (.iload_n 3, 1) := by decide +kernel
theorem dX0_add_41 : decode cX0_add 41 = .ok (.iastore, 1) := by decide +kernel
theorem dX0_add_42 : decode cX0_add 42 = .ok (.aload_n 0, 1) := by decide +kernel
theorem dX0_add_43 : decode cX0_add 43 = .ok (.getfield 21, 3) := by decide +kernel
theorem dX0_add_46 : decode cX0_add 46 = .ok (.aload_n 0, 1) := by decide +kernel
theorem dX0_add_47 : decode cX0_add 47 = .ok (.getfield 33, 3) := by decide +kernel
theorem dX0_add_50 : decode cX0_add 50 = .ok (.iload 4, 2) := by decide +kernel
theorem dX0_add_52 : decode cX0_add 52 = .ok (.iastore, 1) := by decide +kernel
theorem dX0_add_53 : decode cX0_add 53 = .ok (.aload_n 0, 1) := by decide +kernel
theorem dX0_add_54 : decode cX0_add 54 = .ok (.getfield 24, 3) := by decide +kernel
theorem dX0_add_57 : decode cX0_add 57 = .ok (.aload_n 0, 1) := by decide +kernel
theorem dX0_add_58 : decode cX0_add 58 = .ok (.getfield 33, 3) := by decide +kernel
theorem dX0_add_61 : decode cX0_add 61 = .ok (.iload 5, 2) := by decide +kernel
theorem dX0_add_63 : decode cX0_add 63 = .ok (.bipush 10, 2) := by decide +kernel
theorem dX0_add_65 : decode cX0_add 65 = .ok (.idiv, 1) := by decide +kernel
theorem dX0_add_66 : decode cX0_add 66 = .ok (.iastore, 1) := by decide +kernel
theorem dX0_add_67 : decode cX0_add 67 = .ok (.aload_n 0, 1) := by decide +kernel
theorem dX0_add_68 : decode cX0_add 68 = .ok (.getfield 27, 3) := by decide +kernel
theorem dX0_add_71 : decode cX0_add 71 = .ok (.aload_n 0, 1) := by decide +kernel
theorem dX0_add_72 : decode cX0_add 72 = .ok (.getfield 33, 3) := by decide +kernel
theorem dX0_add_75 : decode cX0_add 75 = .ok (.iload 5, 2) := by decide +kernel
theorem dX0_add_77 : decode cX0_add 77 = .ok (.bipush 10, 2) := by decide +kernel
theorem dX0_add_79 : decode cX0_add 79 = .ok (.irem, 1) := by decide +kernel
theorem dX0_add_80 : decode cX0_add 80 = .ok (.iastore, 1) := by decide +kernel
theorem dX0_add_81 : decode cX0_add 81 = .ok (.aload_n 0, 1) := by decide +kernel
theorem dX0_add_82 : decode cX0_add 82 = .ok (.getfield 30, 3) := by decide +kernel
theorem dX0_add_85 : decode cX0_add 85 = .ok (.aload_n 0, 1) := by decide +kernel
theorem dX0_add_86 : decode cX0_add 86 = .ok (.getfield 33, 3) := by decide +kernel
theorem dX0_add_89 : decode cX0_add 89 = .ok (.iload 6, 2) := by decide +kernel
theorem dX0_add_91 : decode cX0_add 91 = .ok (.iastore, 1) := by decide +kernel
theorem dX0_add_92 : decode cX0_add 92 = .ok (.aload_n 0, 1) := by decide +kernel
theorem dX0_add_93 : decode cX0_add 93 = .ok (.dup, 1) := by decide +kernel
theorem dX0_add_94 : decode cX0_add 94 = .ok (.getfield 33, 3) := by decide +kernel
theorem dX0_add_97 : decode cX0_add 97 = .ok (.iconst 1, 1) := by decide +kernel
theorem dX0_add_98 : decode cX0_add 98 = .ok (.iadd, 1) := by decide +kernel
theorem dX0_add_99 : decode cX0_add 99 = .ok (.putfield 33, 3) := by decide +kernel
theorem dX0_add_102 : decode cX0_add 102 = .ok (.aload_n 0, 1) := by decide +kernel
theorem dX0_add_103 : decode cX0_add 103 = .ok (.getfield 33, 3) := by decide +kernel
theorem dX0_add_106 : decode cX0_add 106 = .ok (.iconst 1, 1) := by decide +kernel
theorem dX0_add_107 : decode cX0_add 107 = .ok (.isub, 1) := by decide +kernel
theorem dX0_add_108 : decode cX0_add 108 = .ok (.ireturn, 1) := by decide +kernel
theorem dX1_init_0 : decode cX1_init 0 = .ok (.aload_n 0, 1) := by decide +kernel
theorem dX1_init_1 : decode cX1_init 1 = .ok (.invokespecial 3, 3) := by decide +kernel
theorem dX1_init_4 : decode cX1_init 4 = .ok (.aload_n 0, 1) := by decide +kernel
theorem dX1_init_5 : decode cX1_init 5 = .ok (.iconst 4, 1) := by decide +kernel
theorem dX1_init_6 : decode cX1_init 6 = .ok (.newarray .int, 2) := by decide +kernel
theorem dX1_init_8 : decode cX1_init 8 = .ok (.putfield 9, 3) := by decide +kernel
theorem dX1_init_11 : decode cX1_init 11 = .ok (.aload_n 0, 1) := by decide +kernel
theorem dX1_init_12 : decode cX1_init 12 = .ok (.iconst 4, 1) := by decide +kernel
theorem dX1_init_13 : decode cX1_init 13 = .ok (.newarray .int, 2) := by decide +kernel
theorem dX1_init_15 : decode cX1_init 15 = .ok (.putfield 15, 3) := by decide +kernel
theorem dX1_init_18 : decode cX1_init 18 = .ok (.aload_n 0, 1) := by decide +kernel
theorem dX1_init_19 : decode cX1_init 19 = .ok (.iconst 4, 1) := by decide +kernel
theorem dX1_init_20 : decode cX1_init 20 = .ok (.newarray .int, 2) := by decide +kernel
theorem dX1_init_22 : decode cX1_init 22 = .ok (.putfield 18, 3) := by decide +kernel
theorem dX1_init_25 : decode cX1_init 25 = .ok (.return_, 1) := by decide +kernel
theorem dX1_has_0 : decode cX1_has 0 = .ok (.iload_n 1, 1) := by decide +kernel
theorem dX1_has_1 : decode cX1_has 1 = .ok (.ifCond .lt 15, 3) := by decide +kernel
theorem dX1_has_4 : decode cX1_has 4 = .ok (.iload_n 1, 1) := by decide +kernel
theorem dX1_has_5 : decode cX1_has 5 = .ok (.aload_n 0, 1) := by decide +kernel
theorem dX1_has_6 : decode cX1_has 6 = .ok (.getfield 21, 3) := by decide +kernel
theorem dX1_has_9 : decode cX1_has 9 = .ok (.if_icmp .ge 7, 3) := by decide +kernel
theorem dX1_has_12 : decode cX1_has 12 = .ok (.iconst 1, 1) := by decide +kernel
theorem dX1_has_13 : decode cX1_has 13 = .ok (.goto 4, 3) := by decide +kernel
theorem dX1_has_16 : decode cX1_has 16 = .ok (.iconst 0, 1) := by decide +kernel
theorem dX1_has_17 : decode cX1_has 17 = .ok (.ireturn, 1) := by decide +kernel
theorem dX1_add_0 : decode cX1_add 0 = .ok (.iload_n 1, 1) := by decide +kernel
theorem dX1_add_1 : decode cX1_add 1 = .ok (.iconst 1, 1) := by decide +kernel
theorem dX1_add_2 : decode cX1_add 2 = .ok (.bipush 20, 2) := by decide +kernel
theorem dX1_add_4 : decode cX1_add 4 = .ok (.invokestatic 25, 3) := by decide +kernel
theorem dX1_add_7 : decode cX1_add 7 = .ok (.ifCond .eq 24, 3) := by decide +kernel
theorem dX1_add_10 : decode cX1_add 10 = .ok (.iload_n 2, 1) := by decide +kernel
theorem dX1_add_11 : decode cX1_add 11 = .ok (.iconst 0, 1) := by decide +kernel
theorem dX1_add_12 : decode cX1_add 12 = .ok (.bipush 19, 2) := by decide +kernel
theorem dX1_add_14 : decode cX1_add 14 = .ok (.invokestatic 25, 3) := by decide +kernel
theorem dX1_add_17 : decode cX1_add 17 = .ok (.ifCond .eq 14, 3) := by decide +kernel
theorem dX1_add_20 : decode cX1_add 20 = .ok (.iload_n 3, 1) := by decide +kernel
theorem dX1_add_21 : decode cX1_add 21 = .ok (.bipush (-9), 2) := by decide +kernel
theorem dX1_add_23 : decode cX1_add 23 = .ok (.bipush 9, 2) := by decide +kernel
theorem dX1_add_25 : decode cX1_add 25 = .ok (.invokestatic 25, 3) := by decide +kernel
theorem dX1_add_28 : decode cX1_add 28 = .ok (.ifCond .ne 6, 3) := by decide +kernel
theorem dX1_add_31 : decode cX1_add 31 = .ok (.bipush (-2), 2) := by decide +kernel
theorem dX1_add_33 : decode cX1_add 33 = .ok (.ireturn, 1) := by decide +kernel
theorem dX1_add_34 : decode cX1_add 34 = .ok (.aload_n 0, 1) := by decide +kernel
theorem dX1_add_35 : decode cX1_add 35 = .ok (.getfield 21, 3) := by decide +kernel
theorem dX1_add_38 : decode cX1_add 38 = .ok (.iconst 4, 1) := by decide +kernel
theorem dX1_add_39 : decode cX1_add 39 = .ok (.if_icmp .lt 6, 3) := by decide +kernel
theorem dX1_add_42 : decode cX1_add 42 = .ok (.bipush (-4), 2) := by decide +kernel
theorem dX1_add_44 : decode cX1_add 44 = .ok (.ireturn, 1) := by decide +kernel
theorem dX1_add_45 : decode cX1_add 45 = .ok (.aload_n 0, 1) := by decide +kernel
theorem dX1_add_46 : decode cX1_add 46 = .ok (.getfield 9, 3) := by decide +kernel
theorem dX1_add_49 : decode cX1_add 49 = .ok (.aload_n 0, 1) := by decide +kernel
theorem dX1_add_50 : decode cX1_add 50 = .ok (.getfield 21, 3) := by decide +kernel
theorem dX1_add_53 : decode cX1_add 53 = .ok (.iload_n 1, 1) := by decide +kernel
theorem dX1_add_54 : decode cX1_add 54 = .ok (.iastore, 1) := by decide +kernel
theorem dX1_add_55 : decode cX1_add 55 = .ok (.aload_n 0, 1) := by decide +kernel
theorem dX1_add_56 : decode cX1_add 56 = .ok (.getfield 15, 3) := by decide +kernel
theorem dX1_add_59 : decode cX1_add 59 = .ok (.aload_n 0, 1) := by decide +kernel
theorem dX1_add_60 : decode cX1_add 60 = .ok (.getfield 21, 3) := by decide +kernel
theorem dX1_add_63 : decode cX1_add 63 = .ok (.iload_n 2, 1) := by decide +kernel
theorem dX1_add_64 : decode cX1_add 64 = .ok (.iastore, 1) := by decide +kernel
theorem dX1_add_65 : decode cX1_add 65 = .ok (.aload_n 0, 1) := by decide +kernel
theorem dX1_add_66 : decode cX1_add 66 = .ok (.getfield 18, 3) := by decide +kernel
theorem dX1_add_69 : decode cX1_add 69 = .ok (.aload_n 0, 1) := by decide +kernel
theorem dX1_add_70 : decode cX1_add 70 = .ok (.getfield 21, 3) := by decide +kernel
theorem dX1_add_73 : decode cX1_add 73 = .ok (.iload_n 3, 1) := by decide +kernel
theorem dX1_add_74 : decode cX1_add 74 = .ok (.iastore, 1) := by decide +kernel
theorem dX1_add_75 : decode cX1_add 75 = .ok (.aload_n 0, 1) := by decide +kernel
theorem dX1_add_76 : decode cX1_add 76 = .ok (.dup, 1) := by decide +kernel
theorem dX1_add_77 : decode cX1_add 77 = .ok (.getfield 21, 3) := by decide +kernel
theorem dX1_add_80 : decode cX1_add 80 = .ok (.iconst 1, 1) := by decide +kernel
theorem dX1_add_81 : decode cX1_add 81 = .ok (.iadd, 1) := by decide +kernel
theorem dX1_add_82 : decode cX1_add 82 = .ok (.putfield 21, 3) := by decide +kernel
theorem dX1_add_85 : decode cX1_add 85 = .ok (.aload_n 0, 1) := by decide +kernel
theorem dX1_add_86 : decode cX1_add 86 = .ok (.getfield 21, 3) := by decide +kernel
theorem dX1_add_89 : decode cX1_add 89 = .ok (.iconst 1, 1) := by decide +kernel
theorem dX1_add_90 : decode cX1_add 90 = .ok (.isub, 1) := by decide +kernel
theorem dX1_add_91 : decode cX1_add 91 = .ok (.ireturn, 1) := by decide +kernel
theorem dX1_frameFor_0 : decode cX1_frameFor 0 = .ok (.aload_n 0, 1) := by decide +kernel
theorem dX1_frameFor_1 : decode cX1_frameFor 1 = .ok (.getfield 15, 3) := by decide +kernel
theorem dX1_frameFor_4 : decode cX1_frameFor 4 = .ok (.iload_n 1, 1) := by decide +kernel
theorem dX1_frameFor_5 : decode cX1_frameFor 5 = .ok (.iaload, 1) := by decide +kernel
theorem dX1_frameFor_6 : decode cX1_frameFor 6 = .ok (.istore_n 3, 1) := by decide +kernel
theorem dX1_frameFor_7 : decode cX1_frameFor 7 = .ok (.aload_n 0, 1) := by decide +kernel
theorem dX1_frameFor_8 : decode cX1_frameFor 8 = .ok (.getfield 9, 3) := by decide +kernel
theorem dX1_frameFor_11 : decode cX1_frameFor 11 = .ok (.iload_n 1, 1) := by decide +kernel
theorem dX1_frameFor_12 : decode cX1_frameFor 12 = .ok (.iaload, 1) := by decide +kernel
theorem dX1_frameFor_13 : decode cX1_frameFor 13 = .ok (.istore 4, 2) := by decide +kernel
theorem dX1_frameFor_15 : decode cX1_frameFor 15 = .ok (.iload_n 2, 1) := by decide +kernel
theorem dX1_frameFor_16 : decode cX1_frameFor 16 = .ok (.iload_n 3, 1) := by decide +kernel
theorem dX1_frameFor_17 : decode cX1_frameFor 17 = .ok (.if_icmp .lt 9, 3) := by decide +kernel
theorem dX1_frameFor_20 : decode cX1_frameFor 20 = .ok (.iload 4, 2) := by decide +kernel
theorem dX1_frameFor_22 : decode cX1_frameFor 22 = .ok (.iconst 1, 1) := by decide +kernel
theorem dX1_frameFor_23 : decode cX1_frameFor 23 = .ok (.if_icmp .ge 5, 3) := by decide +kernel
theorem dX1_frameFor_26 : decode cX1_frameFor 26 = .ok (.iload_n 3, 1) := by decide +kernel
theorem dX1_frameFor_27 : decode cX1_frameFor 27 = .ok (.ireturn, 1) := by decide +kernel
theorem dX1_frameFor_28 : decode cX1_frameFor 28 = .ok (.iload_n 2, 1) := by decide +kernel
theorem dX1_frameFor_29 : decode cX1_frameFor 29 = .ok (.iload_n 2, 1) := by decide +kernel
theorem dX1_frameFor_30 : decode cX1_frameFor 30 = .ok (.iload_n 3, 1) := by decide +kernel
theorem dX1_frameFor_31 : decode cX1_frameFor 31 = .ok (.isub, 1) := by decide +kernel
theorem dX1_frameFor_32 : decode cX1_frameFor 32 = .ok (.iload 4, 2) := by decide +kernel
theorem dX1_frameFor_34 : decode cX1_frameFor 34 = .ok (.irem, 1) := by decide +kernel
theorem dX1_frameFor_35 : decode cX1_frameFor 35 = .ok (.isub, 1) := by decide +kernel
theorem dX1_frameFor_36 : decode cX1_frameFor 36 = .ok (.ireturn, 1) := by decide +kernel
theorem dX1_seenAt_0 : decode cX1_seenAt 0 = .ok (.iload_n 2, 1) := by decide +kernel
theorem dX1_seenAt_1 : decode cX1_seenAt 1 = .ok (.aload_n 0, 1) := by decide +kernel
theorem dX1_seenAt_2 : decode cX1_seenAt 2 = .ok (.getfield 18, 3) := by decide +kernel
theorem dX1_seenAt_5 : decode cX1_seenAt 5 = .ok (.iload_n 1, 1) := by decide +kernel
theorem dX1_seenAt_6 : decode cX1_seenAt 6 = .ok (.iaload, 1) := by decide +kernel
theorem dX1_seenAt_7 : decode cX1_seenAt 7 = .ok (.iload_n 2, 1) := by decide +kernel
theorem dX1_seenAt_8 : decode cX1_seenAt 8 = .ok (.imul, 1) := by decide +kernel
theorem dX1_seenAt_9 : decode cX1_seenAt 9 = .ok (.sipush 1000, 3) := by decide +kernel
theorem dX1_seenAt_12 : decode cX1_seenAt 12 = .ok (.idiv, 1) := by decide +kernel
theorem dX1_seenAt_13 : decode cX1_seenAt 13 = .ok (.iadd, 1) := by decide +kernel
theorem dX1_seenAt_14 : decode cX1_seenAt 14 = .ok (.ireturn, 1) := by decide +kernel
theorem dX2_init_0 : decode cX2_init 0 = .ok (.aload_n 0, 1) := by decide +kernel
theorem dX2_init_1 : decode cX2_init 1 = .ok (.invokespecial 3, 3) := by decide +kernel
theorem dX2_init_4 : decode cX2_init 4 = .ok (.aload_n 0, 1) := by decide +kernel
theorem dX2_init_5 : decode cX2_init 5 = .ok (.bipush 40, 2) := by decide +kernel
theorem dX2_init_7 : decode cX2_init 7 = .ok (.newarray .int, 2) := by decide +kernel
theorem dX2_init_9 : decode cX2_init 9 = .ok (.putfield 9, 3) := by decide +kernel
theorem dX2_init_12 : decode cX2_init 12 = .ok (.aload_n 0, 1) := by decide +kernel
theorem dX2_init_13 : decode cX2_init 13 = .ok (.bipush 40, 2) := by decide +kernel
theorem dX2_init_15 : decode cX2_init 15 = .ok (.newarray .int, 2) := by decide +kernel
theorem dX2_init_17 : decode cX2_init 17 = .ok (.putfield 15, 3) := by decide +kernel
theorem dX2_init_20 : decode cX2_init 20 = .ok (.aload_n 0, 1) := by decide +kernel
theorem dX2_init_21 : decode cX2_init 21 = .ok (.bipush 64, 2) := by decide +kernel
theorem dX2_init_23 : decode cX2_init 23 = .ok (.newarray .int, 2) := by decide +kernel
theorem dX2_init_25 : decode cX2_init 25 = .ok (.putfield 18, 3) := by decide +kernel
theorem dX2_init_28 : decode cX2_init 28 = .ok (.return_, 1) := by decide +kernel
theorem dX2_add_0 : decode cX2_add 0 = .ok (.iload_n 1, 1) := by decide +kernel
theorem dX2_add_1 : decode cX2_add 1 = .ok (.iconst 0, 1) := by decide +kernel
theorem dX2_add_2 : decode cX2_add 2 = .ok (.bipush 63, 2) := by decide +kernel
theorem dX2_add_4 : decode cX2_add 4 = .ok (.invokestatic 21, 3) := by decide +kernel
theorem dX2_add_7 : decode cX2_add 7 = .ok (.ifCond .eq 12, 3) := by decide +kernel
theorem dX2_add_10 : decode cX2_add 10 = .ok (.iload_n 2, 1) := by decide +kernel
theorem dX2_add_11 : decode cX2_add 11 = .ok (.iconst 0, 1) := by decide +kernel
theorem dX2_add_12 : decode cX2_add 12 = .ok (.iconst 3, 1) := by decide +kernel
theorem dX2_add_13 : decode cX2_add 13 = .ok (.invokestatic 21, 3) := by decide +kernel
theorem dX2_add_16 : decode cX2_add 16 = .ok (.ifCond .ne 6, 3) := by decide +kernel
theorem dX2_add_19 : decode cX2_add 19 = .ok (.bipush (-2), 2) := by decide +kernel
theorem dX2_add_21 : decode cX2_add 21 = .ok (.ireturn, 1) := by decide +kernel
theorem dX2_add_22 : decode cX2_add 22 = .ok (.aload_n 0, 1) := by decide +kernel
theorem dX2_add_23 : decode cX2_add 23 = .ok (.getfield 25, 3) := by decide +kernel
theorem dX2_add_26 : decode cX2_add 26 = .ok (.bipush 40, 2) := by decide +kernel
theorem dX2_add_28 : decode cX2_add 28 = .ok (.if_icmp .lt 6, 3) := by decide +kernel
theorem dX2_add_31 : decode cX2_add 31 = .ok (.bipush (-4), 2) := by decide +kernel
theorem dX2_add_33 : decode cX2_add 33 = .ok (.ireturn, 1) := by decide +kernel
theorem dX2_add_34 : decode cX2_add 34 = .ok (.aload_n 0, 1) := by decide +kernel
theorem dX2_add_35 : decode cX2_add 35 = .ok (.getfield 9, 3) := by decide +kernel
theorem dX2_add_38 : decode cX2_add 38 = .ok (.aload_n 0, 1) := by decide +kernel
theorem dX2_add_39 : decode cX2_add 39 = .ok (.getfield 25, 3) := by decide +kernel
theorem dX2_add_42 : decode cX2_add 42 = .ok (.iload_n 1, 1) := by decide +kernel
theorem dX2_add_43 : decode cX2_add 43 = .ok (.iastore, 1) := by decide +kernel
theorem dX2_add_44 : decode cX2_add 44 = .ok (.aload_n 0, 1) := by decide +kernel
theorem dX2_add_45 : decode cX2_add 45 = .ok (.getfield 15, 3) := by decide +kernel
theorem dX2_add_48 : decode cX2_add 48 = .ok (.aload_n 0, 1) := by decide +kernel
theorem dX2_add_49 : decode cX2_add 49 = .ok (.getfield 25, 3) := by decide +kernel
theorem dX2_add_52 : decode cX2_add 52 = .ok (.iload_n 2, 1) := by decide +kernel
theorem dX2_add_53 : decode cX2_add 53 = .ok (.iastore, 1) := by decide +kernel
theorem dX2_add_54 : decode cX2_add 54 = .ok (.aload_n 0, 1) := by decide +kernel
theorem dX2_add_55 : decode cX2_add 55 = .ok (.dup, 1) := by decide +kernel
theorem dX2_add_56 : decode cX2_add 56 = .ok (.getfield 25, 3) := by decide +kernel
theorem dX2_add_59 : decode cX2_add 59 = .ok (.iconst 1, 1) := by decide +kernel
theorem dX2_add_60 : decode cX2_add 60 = .ok (.iadd, 1) := by decide +kernel
theorem dX2_add_61 : decode cX2_add 61 = .ok (.putfield 25, 3) := by decide +kernel
theorem dX2_add_64 : decode cX2_add 64 = .ok (.aload_n 0, 1) := by decide +kernel
theorem dX2_add_65 : decode cX2_add 65 = .ok (.getfield 25, 3) := by decide +kernel
theorem dX2_add_68 : decode cX2_add 68 = .ok (.iconst 1, 1) := by decide +kernel
theorem dX2_add_69 : decode cX2_add 69 = .ok (.isub, 1) := by decide +kernel
theorem dX2_add_70 : decode cX2_add 70 = .ok (.ireturn, 1) := by decide +kernel
theorem dX2_fewestMarks_0 : decode cX2_fewestMarks 0 = .ok (.iconst (-1), 1) := by decide +kernel
theorem dX2_fewestMarks_1 : decode cX2_fewestMarks 1 = .ok (.istore_n 1, 1) := by decide +kernel
theorem dX2_fewestMarks_2 : decode cX2_fewestMarks 2 = .ok (.iconst 0, 1) := by decide +kernel
theorem dX2_fewestMarks_3 : decode cX2_fewestMarks 3 = .ok (.istore_n 2, 1) := by decide +kernel
theorem dX2_fewestMarks_4 : decode cX2_fewestMarks 4 = .ok (.iload_n 2, 1) := by decide +kernel
theorem dX2_fewestMarks_5 : decode cX2_fewestMarks 5 = .ok (.bipush 64, 2) := by decide +kernel
theorem dX2_fewestMarks_7 : decode cX2_fewestMarks 7 = .ok (.if_icmp .ge 45, 3) := by decide +kernel
theorem dX2_fewestMarks_10 : decode cX2_fewestMarks 10 = .ok (.iload_n 1, 1) := by decide +kernel
theorem dX2_fewestMarks_11 : decode cX2_fewestMarks 11 = .ok (.iconst (-1), 1) := by decide +kernel
theorem dX2_fewestMarks_12 : decode cX2_fewestMarks 12 = .ok (.if_icmp .eq 14, 3) := by decide +kernel
theorem dX2_fewestMarks_15 : decode cX2_fewestMarks 15 = .ok (.iload_n 2, 1) := by decide +kernel
theorem dX2_fewestMarks_16 : decode cX2_fewestMarks 16 = .ok (.invokestatic 29, 3) := by decide +kernel
theorem dX2_fewestMarks_19 : decode cX2_fewestMarks 19 = .ok (.iload_n 1, 1) := by decide +kernel
theorem dX2_fewestMarks_20 : decode cX2_fewestMarks 20 = .ok (.invokestatic 29, 3) := by decide +kernel
theorem dX2_fewestMarks_23 : decode cX2_fewestMarks 23 = .ok (.if_icmp .ge 7, 3) := by decide +kernel
theorem dX2_fewestMarks_26 : decode cX2_fewestMarks 26 = .ok (.iconst 1, 1) := by decide +kernel
theorem dX2_fewestMarks_27 : decode cX2_fewestMarks 27 = .ok (.goto 4, 3) := by decide +kernel
theorem dX2_fewestMarks_30 : decode cX2_fewestMarks 30 = .ok (.iconst 0, 1) := by decide +kernel
theorem dX2_fewestMarks_31 : decode cX2_fewestMarks 31 = .ok (.istore_n 3, 1) := by decide +kernel
theorem dX2_fewestMarks_32 : decode cX2_fewestMarks 32 = .ok (.iload_n 3, 1) := by decide +kernel
theorem dX2_fewestMarks_33 : decode cX2_fewestMarks 33 = .ok (.ifCond .eq 13, 3) := by decide +kernel
theorem dX2_fewestMarks_36 : decode cX2_fewestMarks 36 = .ok (.aload_n 0, 1) := by decide +kernel
theorem dX2_fewestMarks_37 : decode cX2_fewestMarks 37 = .ok (.iload_n 2, 1) := by decide +kernel
theorem dX2_fewestMarks_38 : decode cX2_fewestMarks 38 = .ok (.invokevirtual 35, 3) := by decide +kernel
theorem dX2_fewestMarks_41 : decode cX2_fewestMarks 41 = .ok (.ifCond .eq 5, 3) := by decide +kernel
theorem dX2_fewestMarks_44 : decode cX2_fewestMarks 44 = .ok (.iload_n 2, 1) := by decide +kernel
theorem dX2_fewestMarks_45 : decode cX2_fewestMarks 45 = .ok (.istore_n 1, 1) := by decide +kernel
theorem dX2_fewestMarks_46 : decode cX2_fewestMarks 46 = .ok (.iinc 2 1, 3) := by decide +kernel
theorem dX2_fewestMarks_49 : decode cX2_fewestMarks 49 = .ok (.goto (-45), 3) := by decide +kernel
theorem dX2_fewestMarks_52 : decode cX2_fewestMarks 52 = .ok (.iload_n 1, 1) := by decide +kernel
theorem dX2_fewestMarks_53 : decode cX2_fewestMarks 53 = .ok (.ireturn, 1) := by decide +kernel
theorem dX2_isSplitBy_0 : decode cX2_isSplitBy 0 = .ok (.iconst 0, 1) := by decide +kernel
theorem dX2_isSplitBy_1 : decode cX2_isSplitBy 1 = .ok (.istore_n 2, 1) := by decide +kernel
theorem dX2_isSplitBy_2 : decode cX2_isSplitBy 2 = .ok (.iload_n 2, 1) := by decide +kernel
theorem dX2_isSplitBy_3 : decode cX2_isSplitBy 3 = .ok (.bipush 64, 2) := by decide +kernel
theorem dX2_isSplitBy_5 : decode cX2_isSplitBy 5 = .ok (.if_icmp .ge 16, 3) := by decide +kernel
theorem dX2_isSplitBy_8 : decode cX2_isSplitBy 8 = .ok (.aload_n 0, 1) := by decide +kernel
theorem dX2_isSplitBy_9 : decode cX2_isSplitBy 9 = .ok (.getfield 18, 3) := by decide +kernel
theorem dX2_isSplitBy_12 : decode cX2_isSplitBy 12 = .ok (.iload_n 2, 1) := by decide +kernel
theorem dX2_isSplitBy_13 : decode cX2_isSplitBy 13 = .ok (.iconst (-1), 1) := by decide +kernel
theorem dX2_isSplitBy_14 : decode cX2_isSplitBy 14 = .ok (.iastore, 1) := by decide +kernel
theorem dX2_isSplitBy_15 : decode cX2_isSplitBy 15 = .ok (.iinc 2 1, 3) := by decide +kernel
theorem dX2_isSplitBy_18 : decode cX2_isSplitBy 18 = .ok (.goto (-16), 3) := by decide +kernel
theorem dX2_isSplitBy_21 : decode cX2_isSplitBy 21 = .ok (.iconst 0, 1) := by decide +kernel
theorem dX2_isSplitBy_22 : decode cX2_isSplitBy 22 = .ok (.istore_n 2, 1) := by decide +kernel
theorem dX2_isSplitBy_23 : decode cX2_isSplitBy 23 = .ok (.iload_n 2, 1) := by decide +kernel
theorem dX2_isSplitBy_24 : decode cX2_isSplitBy 24 = .ok (.aload_n 0, 1) := by decide +kernel
theorem dX2_isSplitBy_25 : decode cX2_isSplitBy 25 = .ok (.getfield 25, 3) := by decide +kernel
theorem dX2_isSplitBy_28 : decode cX2_isSplitBy 28 = .ok (.if_icmp .ge 57, 3) := by decide +kernel
theorem dX2_isSplitBy_31 : decode cX2_isSplitBy 31 = .ok (.aload_n 0, 1) := by decide +kernel
theorem dX2_isSplitBy_32 : decode cX2_isSplitBy 32 = .ok (.getfield 9, 3) := by decide +kernel
theorem dX2_isSplitBy_35 : decode cX2_isSplitBy 35 = .ok (.iload_n 2, 1) := by decide +kernel
theorem dX2_isSplitBy_36 : decode cX2_isSplitBy 36 = .ok (.iaload, 1) := by decide +kernel
theorem dX2_isSplitBy_37 : decode cX2_isSplitBy 37 = .ok (.iload_n 1, 1) := by decide +kernel
theorem dX2_isSplitBy_38 : decode cX2_isSplitBy 38 = .ok (.iand, 1) := by decide +kernel
theorem dX2_isSplitBy_39 : decode cX2_isSplitBy 39 = .ok (.istore_n 3, 1) := by decide +kernel
theorem dX2_isSplitBy_40 : decode cX2_isSplitBy 40 = .ok (.aload_n 0, 1) := by decide +kernel
theorem dX2_isSplitBy_41 : decode cX2_isSplitBy 41 = .ok (.getfield 18, 3) := by decide +kernel
theorem dX2_isSplitBy_44 : decode cX2_isSplitBy 44 = .ok (.iload_n 3, 1) := by decide +kernel
theorem dX2_isSplitBy_45 : decode cX2_isSplitBy 45 = .ok (.iaload, 1) := by decide +kernel
theorem dX2_isSplitBy_46 : decode cX2_isSplitBy 46 = .ok (.iconst (-1), 1) := by decide +kernel
theorem dX2_isSplitBy_47 : decode cX2_isSplitBy 47 = .ok (.if_icmp .eq 20, 3) := by decide +kernel
theorem dX2_isSplitBy_50 : decode cX2_isSplitBy 50 = .ok (.aload_n 0, 1) := by decide +kernel
theorem dX2_isSplitBy_51 : decode cX2_isSplitBy 51 = .ok (.getfield 18, 3) := by decide +kernel
theorem dX2_isSplitBy_54 : decode cX2_isSplitBy 54 = .ok (.iload_n 3, 1) := by decide +kernel
theorem dX2_isSplitBy_55 : decode cX2_isSplitBy 55 = .ok (.iaload, 1) := by decide +kernel
theorem dX2_isSplitBy_56 : decode cX2_isSplitBy 56 = .ok (.aload_n 0, 1) := by decide +kernel
theorem dX2_isSplitBy_57 : decode cX2_isSplitBy 57 = .ok (.getfield 15, 3) := by decide +kernel
theorem dX2_isSplitBy_60 : decode cX2_isSplitBy 60 = .ok (.iload_n 2, 1) := by decide +kernel
theorem dX2_isSplitBy_61 : decode cX2_isSplitBy 61 = .ok (.iaload, 1) := by decide +kernel
theorem dX2_isSplitBy_62 : decode cX2_isSplitBy 62 = .ok (.if_icmp .eq 5, 3) := by decide +kernel
theorem dX2_isSplitBy_65 : decode cX2_isSplitBy 65 = .ok (.iconst 0, 1) := by decide +kernel
theorem dX2_isSplitBy_66 : decode cX2_isSplitBy 66 = .ok (.ireturn, 1) := by decide +kernel
theorem dX2_isSplitBy_67 : decode cX2_isSplitBy 67 = .ok (.aload_n 0, 1) := by decide +kernel
theorem dX2_isSplitBy_68 : decode cX2_isSplitBy 68 = .ok (.getfield 18, 3) := by decide +kernel
theorem dX2_isSplitBy_71 : decode cX2_isSplitBy 71 = .ok (.iload_n 3, 1) := by decide +kernel
theorem dX2_isSplitBy_72 : decode cX2_isSplitBy 72 = .ok (.aload_n 0, 1) := by decide +kernel
theorem dX2_isSplitBy_73 : decode cX2_isSplitBy 73 = .ok (.getfield 15, 3) := by decide +kernel
theorem dX2_isSplitBy_76 : decode cX2_isSplitBy 76 = .ok (.iload_n 2, 1) := by decide +kernel
theorem dX2_isSplitBy_77 : decode cX2_isSplitBy 77 = .ok (.iaload, 1) := by decide +kernel
theorem dX2_isSplitBy_78 : decode cX2_isSplitBy 78 = .ok (.iastore, 1) := by decide +kernel
theorem dX2_isSplitBy_79 : decode cX2_isSplitBy 79 = .ok (.iinc 2 1, 3) := by decide +kernel
theorem dX2_isSplitBy_82 : decode cX2_isSplitBy 82 = .ok (.goto (-59), 3) := by decide +kernel
theorem dX2_isSplitBy_85 : decode cX2_isSplitBy 85 = .ok (.iconst 1, 1) := by decide +kernel
theorem dX2_isSplitBy_86 : decode cX2_isSplitBy 86 = .ok (.ireturn, 1) := by decide +kernel
theorem dX3_init_0 : decode cX3_init 0 = .ok (.aload_n 0, 1) := by decide +kernel
theorem dX3_init_1 : decode cX3_init 1 = .ok (.invokespecial 3, 3) := by decide +kernel
theorem dX3_init_4 : decode cX3_init 4 = .ok (.aload_n 0, 1) := by decide +kernel
theorem dX3_init_5 : decode cX3_init 5 = .ok (.bipush 6, 2) := by decide +kernel
theorem dX3_init_7 : decode cX3_init 7 = .ok (.newarray .int, 2) := by decide +kernel
theorem dX3_init_9 : decode cX3_init 9 = .ok (.putfield 9, 3) := by decide +kernel
theorem dX3_init_12 : decode cX3_init 12 = .ok (.aload_n 0, 1) := by decide +kernel
theorem dX3_init_13 : decode cX3_init 13 = .ok (.bipush 6, 2) := by decide +kernel
theorem dX3_init_15 : decode cX3_init 15 = .ok (.newarray .int, 2) := by decide +kernel
theorem dX3_init_17 : decode cX3_init 17 = .ok (.putfield 15, 3) := by decide +kernel
theorem dX3_init_20 : decode cX3_init 20 = .ok (.return_, 1) := by decide +kernel
theorem dX3_has_0 : decode cX3_has 0 = .ok (.iload_n 1, 1) := by decide +kernel
theorem dX3_has_1 : decode cX3_has 1 = .ok (.ifCond .lt 15, 3) := by decide +kernel
theorem dX3_has_4 : decode cX3_has 4 = .ok (.iload_n 1, 1) := by decide +kernel
theorem dX3_has_5 : decode cX3_has 5 = .ok (.aload_n 0, 1) := by decide +kernel
theorem dX3_has_6 : decode cX3_has 6 = .ok (.getfield 18, 3) := by decide +kernel
theorem dX3_has_9 : decode cX3_has 9 = .ok (.if_icmp .ge 7, 3) := by decide +kernel
theorem dX3_has_12 : decode cX3_has 12 = .ok (.iconst 1, 1) := by decide +kernel
theorem dX3_has_13 : decode cX3_has 13 = .ok (.goto 4, 3) := by decide +kernel
theorem dX3_has_16 : decode cX3_has 16 = .ok (.iconst 0, 1) := by decide +kernel
theorem dX3_has_17 : decode cX3_has 17 = .ok (.ireturn, 1) := by decide +kernel
theorem dX3_add_0 : decode cX3_add 0 = .ok (.iload_n 1, 1) := by decide +kernel
theorem dX3_add_1 : decode cX3_add 1 = .ok (.bipush (-20), 2) := by decide +kernel
theorem dX3_add_3 : decode cX3_add 3 = .ok (.bipush 20, 2) := by decide +kernel
theorem dX3_add_5 : decode cX3_add 5 = .ok (.invokestatic 22, 3) := by decide +kernel
theorem dX3_add_8 : decode cX3_add 8 = .ok (.ifCond .eq 13, 3) := by decide +kernel
theorem dX3_add_11 : decode cX3_add 11 = .ok (.iload_n 2, 1) := by decide +kernel
theorem dX3_add_12 : decode cX3_add 12 = .ok (.iconst 0, 1) := by decide +kernel
theorem dX3_add_13 : decode cX3_add 13 = .ok (.bipush 9, 2) := by decide +kernel
theorem dX3_add_15 : decode cX3_add 15 = .ok (.invokestatic 22, 3) := by decide +kernel
theorem dX3_add_18 : decode cX3_add 18 = .ok (.ifCond .ne 6, 3) := by decide +kernel
theorem dX3_add_21 : decode cX3_add 21 = .ok (.bipush (-2), 2) := by decide +kernel
theorem dX3_add_23 : decode cX3_add 23 = .ok (.ireturn, 1) := by decide +kernel
theorem dX3_add_24 : decode cX3_add 24 = .ok (.aload_n 0, 1) := by decide +kernel
theorem dX3_add_25 : decode cX3_add 25 = .ok (.getfield 18, 3) := by decide +kernel
theorem dX3_add_28 : decode cX3_add 28 = .ok (.bipush 6, 2) := by decide +kernel
theorem dX3_add_30 : decode cX3_add 30 = .ok (.if_icmp .lt 6, 3) := by decide +kernel
theorem dX3_add_33 : decode cX3_add 33 = .ok (.bipush (-4), 2) := by decide +kernel
theorem dX3_add_35 : decode cX3_add 35 = .ok (.ireturn, 1) := by decide +kernel
theorem dX3_add_36 : decode cX3_add 36 = .ok (.aload_n 0, 1) := by decide +kernel
theorem dX3_add_37 : decode cX3_add 37 = .ok (.getfield 9, 3) := by decide +kernel
theorem dX3_add_40 : decode cX3_add 40 = .ok (.aload_n 0, 1) := by decide +kernel
theorem dX3_add_41 : decode cX3_add 41 = .ok (.getfield 18, 3) := by decide +kernel
theorem dX3_add_44 : decode cX3_add 44 = .ok (.iload_n 1, 1) := by decide +kernel
theorem dX3_add_45 : decode cX3_add 45 = .ok (.iastore, 1) := by decide +kernel
theorem dX3_add_46 : decode cX3_add 46 = .ok (.aload_n 0, 1) := by decide +kernel
theorem dX3_add_47 : decode cX3_add 47 = .ok (.getfield 15, 3) := by decide +kernel
theorem dX3_add_50 : decode cX3_add 50 = .ok (.aload_n 0, 1) := by decide +kernel
theorem dX3_add_51 : decode cX3_add 51 = .ok (.getfield 18, 3) := by decide +kernel
theorem dX3_add_54 : decode cX3_add 54 = .ok (.iload_n 2, 1) := by decide +kernel
theorem dX3_add_55 : decode cX3_add 55 = .ok (.iastore, 1) := by decide +kernel
theorem dX3_add_56 : decode cX3_add 56 = .ok (.aload_n 0, 1) := by decide +kernel
theorem dX3_add_57 : decode cX3_add 57 = .ok (.dup, 1) := by decide +kernel
theorem dX3_add_58 : decode cX3_add 58 = .ok (.getfield 18, 3) := by decide +kernel
theorem dX3_add_61 : decode cX3_add 61 = .ok (.iconst 1, 1) := by decide +kernel
theorem dX3_add_62 : decode cX3_add 62 = .ok (.iadd, 1) := by decide +kernel
theorem dX3_add_63 : decode cX3_add 63 = .ok (.putfield 18, 3) := by decide +kernel
theorem dX3_add_66 : decode cX3_add 66 = .ok (.aload_n 0, 1) := by decide +kernel
theorem dX3_add_67 : decode cX3_add 67 = .ok (.getfield 18, 3) := by decide +kernel
theorem dX3_add_70 : decode cX3_add 70 = .ok (.iconst 1, 1) := by decide +kernel
theorem dX3_add_71 : decode cX3_add 71 = .ok (.isub, 1) := by decide +kernel
theorem dX3_add_72 : decode cX3_add 72 = .ok (.ireturn, 1) := by decide +kernel
theorem dX4_init_0 : decode cX4_init 0 = .ok (.aload_n 0, 1) := by decide +kernel
theorem dX4_init_1 : decode cX4_init 1 = .ok (.invokespecial 3, 3) := by decide +kernel
theorem dX4_init_4 : decode cX4_init 4 = .ok (.aload_n 0, 1) := by decide +kernel
theorem dX4_init_5 : decode cX4_init 5 = .ok (.bipush 12, 2) := by decide +kernel
theorem dX4_init_7 : decode cX4_init 7 = .ok (.newarray .int, 2) := by decide +kernel
theorem dX4_init_9 : decode cX4_init 9 = .ok (.putfield 9, 3) := by decide +kernel
theorem dX4_init_12 : decode cX4_init 12 = .ok (.aload_n 0, 1) := by decide +kernel
theorem dX4_init_13 : decode cX4_init 13 = .ok (.bipush 12, 2) := by decide +kernel
theorem dX4_init_15 : decode cX4_init 15 = .ok (.newarray .int, 2) := by decide +kernel
theorem dX4_init_17 : decode cX4_init 17 = .ok (.putfield 15, 3) := by decide +kernel
theorem dX4_init_20 : decode cX4_init 20 = .ok (.aload_n 0, 1) := by decide +kernel
theorem dX4_init_21 : decode cX4_init 21 = .ok (.bipush 12, 2) := by decide +kernel
theorem dX4_init_23 : decode cX4_init 23 = .ok (.newarray .int, 2) := by decide +kernel
theorem dX4_init_25 : decode cX4_init 25 = .ok (.putfield 18, 3) := by decide +kernel
theorem dX4_init_28 : decode cX4_init 28 = .ok (.aload_n 0, 1) := by decide +kernel
theorem dX4_init_29 : decode cX4_init 29 = .ok (.bipush 12, 2) := by decide +kernel
theorem dX4_init_31 : decode cX4_init 31 = .ok (.newarray .int, 2) := by decide +kernel
theorem dX4_init_33 : decode cX4_init 33 = .ok (.putfield 21, 3) := by decide +kernel
theorem dX4_init_36 : decode cX4_init 36 = .ok (.aload_n 0, 1) := by decide +kernel
theorem dX4_init_37 : decode cX4_init 37 = .ok (.iconst 4, 1) := by decide +kernel
theorem dX4_init_38 : decode cX4_init 38 = .ok (.newarray .int, 2) := by decide +kernel
theorem dX4_init_40 : decode cX4_init 40 = .ok (.putfield 24, 3) := by decide +kernel
theorem dX4_init_43 : decode cX4_init 43 = .ok (.aload_n 0, 1) := by decide +kernel
theorem dX4_init_44 : decode cX4_init 44 = .ok (.iconst 4, 1) := by decide +kernel
theorem dX4_init_45 : decode cX4_init 45 = .ok (.newarray .int, 2) := by decide +kernel
theorem dX4_init_47 : decode cX4_init 47 = .ok (.putfield 27, 3) := by decide +kernel
theorem dX4_init_50 : decode cX4_init 50 = .ok (.aload_n 0, 1) := by decide +kernel
theorem dX4_init_51 : decode cX4_init 51 = .ok (.iconst 4, 1) := by decide +kernel
theorem dX4_init_52 : decode cX4_init 52 = .ok (.newarray .int, 2) := by decide +kernel
theorem dX4_init_54 : decode cX4_init 54 = .ok (.putfield 30, 3) := by decide +kernel
theorem dX4_init_57 : decode cX4_init 57 = .ok (.return_, 1) := by decide +kernel
theorem dX4_add_0 : decode cX4_add 0 = .ok (.aload_n 0, 1) := by decide +kernel
theorem dX4_add_1 : decode cX4_add 1 = .ok (.getfield 33, 3) := by decide +kernel
theorem dX4_add_4 : decode cX4_add 4 = .ok (.bipush 12, 2) := by decide +kernel
theorem dX4_add_6 : decode cX4_add 6 = .ok (.if_icmp .lt 6, 3) := by decide +kernel
theorem dX4_add_9 : decode cX4_add 9 = .ok (.bipush (-4), 2) := by decide +kernel
theorem dX4_add_11 : decode cX4_add 11 = .ok (.ireturn, 1) := by decide +kernel
theorem dX4_add_12 : decode cX4_add 12 = .ok (.aload_n 0, 1) := by decide +kernel
theorem dX4_add_13 : decode cX4_add 13 = .ok (.getfield 9, 3) := by decide +kernel
theorem dX4_add_16 : decode cX4_add 16 = .ok (.aload_n 0, 1) := by decide +kernel
theorem dX4_add_17 : decode cX4_add 17 = .ok (.getfield 33, 3) := by decide +kernel
theorem dX4_add_20 : decode cX4_add 20 = .ok (.iload_n 1, 1) := by decide +kernel
theorem dX4_add_21 : decode cX4_add 21 = .ok (.bipush 10, 2) := by decide +kernel
theorem dX4_add_23 : decode cX4_add 23 = .ok (.idiv, 1) := by decide +kernel
theorem dX4_add_24 : decode cX4_add 24 = .ok (.iastore, 1) := by decide +kernel
theorem dX4_add_25 : decode cX4_add 25 = .ok (.aload_n 0, 1) := by decide +kernel
theorem dX4_add_26 : decode cX4_add 26 = .ok (.getfield 15, 3) := by decide +kernel
theorem dX4_add_29 : decode cX4_add 29 = .ok (.aload_n 0, 1) := by decide +kernel
theorem dX4_add_30 : decode cX4_add 30 = .ok (.getfield 33, 3) := by decide +kernel
theorem dX4_add_33 : decode cX4_add 33 = .ok (.iload_n 1, 1) := by decide +kernel
theorem dX4_add_34 : decode cX4_add 34 = .ok (.bipush 10, 2) := by decide +kernel
theorem dX4_add_36 : decode cX4_add 36 = .ok (.irem, 1) := by decide +kernel
theorem dX4_add_37 : decode cX4_add 37 = .ok (.iastore, 1) := by decide +kernel
theorem dX4_add_38 : decode cX4_add 38 = .ok (.aload_n 0, 1) := by decide +kernel
theorem dX4_add_39 : decode cX4_add 39 = .ok (.getfield 18, 3) := by decide +kernel
theorem dX4_add_42 : decode cX4_add 42 = .ok (.aload_n 0, 1) := by decide +kernel
theorem dX4_add_43 : decode cX4_add 43 = .ok (.getfield 33, 3) := by decide +kernel
theorem dX4_add_46 : decode cX4_add 46 = .ok (.iload_n 2, 1) := by decide +kernel
theorem dX4_add_47 : decode cX4_add 47 = .ok (.iastore, 1) := by decide +kernel
theorem dX4_add_48 : decode cX4_add 48 = .ok (.aload_n 0, 1) := by decide +kernel
theorem dX4_add_49 : decode cX4_add 49 = .ok (.getfield 21, 3) := by decide +kernel
theorem dX4_add_52 : decode cX4_add 52 = .ok (.aload_n 0, 1) := by decide +kernel
theorem dX4_add_53 : decode cX4_add 53 = .ok (.getfield 33, 3) := by decide +kernel
theorem dX4_add_56 : decode cX4_add 56 = .ok (.iload_n 3, 1) := by decide +kernel
theorem dX4_add_57 : decode cX4_add 57 = .ok (.iastore, 1) := by decide +kernel
theorem dX4_add_58 : decode cX4_add 58 = .ok (.aload_n 0, 1) := by decide +kernel
theorem dX4_add_59 : decode cX4_add 59 = .ok (.dup, 1) := by decide +kernel
theorem dX4_add_60 : decode cX4_add 60 = .ok (.getfield 33, 3) := by decide +kernel
theorem dX4_add_63 : decode cX4_add 63 = .ok (.iconst 1, 1) := by decide +kernel
theorem dX4_add_64 : decode cX4_add 64 = .ok (.iadd, 1) := by decide +kernel
theorem dX4_add_65 : decode cX4_add 65 = .ok (.putfield 33, 3) := by decide +kernel
theorem dX4_add_68 : decode cX4_add 68 = .ok (.aload_n 0, 1) := by decide +kernel
theorem dX4_add_69 : decode cX4_add 69 = .ok (.getfield 33, 3) := by decide +kernel
theorem dX4_add_72 : decode cX4_add 72 = .ok (.iconst 1, 1) := by decide +kernel
theorem dX4_add_73 : decode cX4_add 73 = .ok (.isub, 1) := by decide +kernel
theorem dX4_add_74 : decode cX4_add 74 = .ok (.ireturn, 1) := by decide +kernel
theorem dX4_playAll_0 : decode cX4_playAll 0 = .ok (.iconst 0, 1) := by decide +kernel
theorem dX4_playAll_1 : decode cX4_playAll 1 = .ok (.istore_n 3, 1) := by decide +kernel
theorem dX4_playAll_2 : decode cX4_playAll 2 = .ok (.iload_n 3, 1) := by decide +kernel
theorem dX4_playAll_3 : decode cX4_playAll 3 = .ok (.iconst 4, 1) := by decide +kernel
theorem dX4_playAll_4 : decode cX4_playAll 4 = .ok (.if_icmp .ge 30, 3) := by decide +kernel
theorem dX4_playAll_7 : decode cX4_playAll 7 = .ok (.aload_n 0, 1) := by decide +kernel
theorem dX4_playAll_8 : decode cX4_playAll 8 = .ok (.getfield 24, 3) := by decide +kernel
theorem dX4_playAll_11 : decode cX4_playAll 11 = .ok (.iload_n 3, 1) := by decide +kernel
theorem dX4_playAll_12 : decode cX4_playAll 12 = .ok (.iconst 0, 1) := by decide +kernel
theorem dX4_playAll_13 : decode cX4_playAll 13 = .ok (.iastore, 1) := by decide +kernel
theorem dX4_playAll_14 : decode cX4_playAll 14 = .ok (.aload_n 0, 1) := by decide +kernel
theorem dX4_playAll_15 : decode cX4_playAll 15 = .ok (.getfield 27, 3) := by decide +kernel
theorem dX4_playAll_18 : decode cX4_playAll 18 = .ok (.iload_n 3, 1) := by decide +kernel
theorem dX4_playAll_19 : decode cX4_playAll 19 = .ok (.iconst 0, 1) := by decide +kernel
theorem dX4_playAll_20 : decode cX4_playAll 20 = .ok (.iastore, 1) := by decide +kernel
theorem dX4_playAll_21 : decode cX4_playAll 21 = .ok (.aload_n 0, 1) := by decide +kernel
theorem dX4_playAll_22 : decode cX4_playAll 22 = .ok (.getfield 30, 3) := by decide +kernel
theorem dX4_playAll_25 : decode cX4_playAll 25 = .ok (.iload_n 3, 1) := by decide +kernel
theorem dX4_playAll_26 : decode cX4_playAll 26 = .ok (.iconst 0, 1) := by decide +kernel
theorem dX4_playAll_27 : decode cX4_playAll 27 = .ok (.iastore, 1) := by decide +kernel
theorem dX4_playAll_28 : decode cX4_playAll 28 = .ok (.iinc 3 1, 3) := by decide +kernel
theorem dX4_playAll_31 : decode cX4_playAll 31 = .ok (.goto (-29), 3) := by decide +kernel
theorem dX4_playAll_34 : decode cX4_playAll 34 = .ok (.iconst 0, 1) := by decide +kernel
theorem dX4_playAll_35 : decode cX4_playAll 35 = .ok (.istore_n 3, 1) := by decide +kernel
theorem dX4_playAll_36 : decode cX4_playAll 36 = .ok (.iload_n 3, 1) := by decide +kernel
theorem dX4_playAll_37 : decode cX4_playAll 37 = .ok (.aload_n 0, 1) := by decide +kernel
theorem dX4_playAll_38 : decode cX4_playAll 38 = .ok (.getfield 33, 3) := by decide +kernel
theorem dX4_playAll_41 : decode cX4_playAll 41 = .ok (.if_icmp .ge 103, 3) := by decide +kernel
theorem dX4_playAll_44 : decode cX4_playAll 44 = .ok (.aload_n 0, 1) := by decide +kernel
theorem dX4_playAll_45 : decode cX4_playAll 45 = .ok (.getfield 21, 3) := by decide +kernel
theorem dX4_playAll_48 : decode cX4_playAll 48 = .ok (.iload_n 3, 1) := by decide +kernel
theorem dX4_playAll_49 : decode cX4_playAll 49 = .ok (.iaload, 1) := by decide +kernel
theorem dX4_playAll_50 : decode cX4_playAll 50 = .ok (.iload_n 1, 1) := by decide +kernel
theorem dX4_playAll_51 : decode cX4_playAll 51 = .ok (.iconst (-1), 1) := by decide +kernel
theorem dX4_playAll_52 : decode cX4_playAll 52 = .ok (.ixor, 1) := by decide +kernel
theorem dX4_playAll_53 : decode cX4_playAll 53 = .ok (.iand, 1) := by decide +kernel
theorem dX4_playAll_54 : decode cX4_playAll 54 = .ok (.istore 4, 2) := by decide +kernel
theorem dX4_playAll_56 : decode cX4_playAll 56 = .ok (.aload_n 0, 1) := by decide +kernel
theorem dX4_playAll_57 : decode cX4_playAll 57 = .ok (.getfield 18, 3) := by decide +kernel
theorem dX4_playAll_60 : decode cX4_playAll 60 = .ok (.iload_n 3, 1) := by decide +kernel
theorem dX4_playAll_61 : decode cX4_playAll 61 = .ok (.iaload, 1) := by decide +kernel
theorem dX4_playAll_62 : decode cX4_playAll 62 = .ok (.bipush 10, 2) := by decide +kernel
theorem dX4_playAll_64 : decode cX4_playAll 64 = .ok (.idiv, 1) := by decide +kernel
theorem dX4_playAll_65 : decode cX4_playAll 65 = .ok (.aload_n 2, 1) := by decide +kernel
theorem dX4_playAll_66 : decode cX4_playAll 66 = .ok (.aload_n 0, 1) := by decide +kernel
theorem dX4_playAll_67 : decode cX4_playAll 67 = .ok (.getfield 9, 3) := by decide +kernel
theorem dX4_playAll_70 : decode cX4_playAll 70 = .ok (.iload_n 3, 1) := by decide +kernel
theorem dX4_playAll_71 : decode cX4_playAll 71 = .ok (.iaload, 1) := by decide +kernel
theorem dX4_playAll_72 : decode cX4_playAll 72 = .ok (.iload 4, 2) := by decide +kernel
theorem dX4_playAll_74 : decode cX4_playAll 74 = .ok (.invokevirtual 37, 3) := by decide +kernel
theorem dX4_playAll_77 : decode cX4_playAll 77 = .ok (.invokestatic 43, 3) := by decide +kernel
theorem dX4_playAll_80 : decode cX4_playAll 80 = .ok (.iadd, 1) := by decide +kernel
theorem dX4_playAll_81 : decode cX4_playAll 81 = .ok (.istore 5, 2) := by decide +kernel
theorem dX4_playAll_83 : decode cX4_playAll 83 = .ok (.aload_n 0, 1) := by decide +kernel
theorem dX4_playAll_84 : decode cX4_playAll 84 = .ok (.getfield 18, 3) := by decide +kernel
theorem dX4_playAll_87 : decode cX4_playAll 87 = .ok (.iload_n 3, 1) := by decide +kernel
theorem dX4_playAll_88 : decode cX4_playAll 88 = .ok (.iaload, 1) := by decide +kernel
theorem dX4_playAll_89 : decode cX4_playAll 89 = .ok (.bipush 10, 2) := by decide +kernel
theorem dX4_playAll_91 : decode cX4_playAll 91 = .ok (.irem, 1) := by decide +kernel
theorem dX4_playAll_92 : decode cX4_playAll 92 = .ok (.aload_n 2, 1) := by decide +kernel
theorem dX4_playAll_93 : decode cX4_playAll 93 = .ok (.aload_n 0, 1) := by decide +kernel
theorem dX4_playAll_94 : decode cX4_playAll 94 = .ok (.getfield 15, 3) := by decide +kernel
theorem dX4_playAll_97 : decode cX4_playAll 97 = .ok (.iload_n 3, 1) := by decide +kernel
theorem dX4_playAll_98 : decode cX4_playAll 98 = .ok (.iaload, 1) := by decide +kernel
theorem dX4_playAll_99 : decode cX4_playAll 99 = .ok (.iload 4, 2) := by decide +kernel
theorem dX4_playAll_101 : decode cX4_playAll 101 = .ok (.invokevirtual 37, 3) := by decide +kernel
theorem dX4_playAll_104 : decode cX4_playAll 104 = .ok (.invokestatic 43, 3) := by decide +kernel
theorem dX4_playAll_107 : decode cX4_playAll 107 = .ok (.iadd, 1) := by decide +kernel
theorem dX4_playAll_108 : decode cX4_playAll 108 = .ok (.istore 6, 2) := by decide +kernel
theorem dX4_playAll_110 : decode cX4_playAll 110 = .ok (.aload_n 0, 1) := by decide +kernel
theorem dX4_playAll_111 : decode cX4_playAll 111 = .ok (.aload_n 0, 1) := by decide +kernel
theorem dX4_playAll_112 : decode cX4_playAll 112 = .ok (.getfield 9, 3) := by decide +kernel
theorem dX4_playAll_115 : decode cX4_playAll 115 = .ok (.iload_n 3, 1) := by decide +kernel
theorem dX4_playAll_116 : decode cX4_playAll 116 = .ok (.iaload, 1) := by decide +kernel
theorem dX4_playAll_117 : decode cX4_playAll 117 = .ok (.iload 5, 2) := by decide +kernel
theorem dX4_playAll_119 : decode cX4_playAll 119 = .ok (.iload 6, 2) := by decide +kernel
theorem dX4_playAll_121 : decode cX4_playAll 121 = .ok (.invokevirtual 49, 3) := by decide +kernel
theorem dX4_playAll_124 : decode cX4_playAll 124 = .ok (.aload_n 0, 1) := by decide +kernel
theorem dX4_playAll_125 : decode cX4_playAll 125 = .ok (.aload_n 0, 1) := by decide +kernel
theorem dX4_playAll_126 : decode cX4_playAll 126 = .ok (.getfield 15, 3) := by decide +kernel
theorem dX4_playAll_129 : decode cX4_playAll 129 = .ok (.iload_n 3, 1) := by decide +kernel
theorem dX4_playAll_130 : decode cX4_playAll 130 = .ok (.iaload, 1) := by decide +kernel
theorem dX4_playAll_131 : decode cX4_playAll 131 = .ok (.iload 6, 2) := by decide +kernel
theorem dX4_playAll_133 : decode cX4_playAll 133 = .ok (.iload 5, 2) := by decide +kernel
theorem dX4_playAll_135 : decode cX4_playAll 135 = .ok (.invokevirtual 49, 3) := by decide +kernel
theorem dX4_playAll_138 : decode cX4_playAll 138 = .ok (.iinc 3 1, 3) := by decide +kernel
theorem dX4_playAll_141 : decode cX4_playAll 141 = .ok (.goto (-105), 3) := by decide +kernel
theorem dX4_playAll_144 : decode cX4_playAll 144 = .ok (.return_, 1) := by decide +kernel
theorem dX4_score_0 : decode cX4_score 0 = .ok (.aload_n 0, 1) := by decide +kernel
theorem dX4_score_1 : decode cX4_score 1 = .ok (.getfield 27, 3) := by decide +kernel
theorem dX4_score_4 : decode cX4_score 4 = .ok (.iload_n 1, 1) := by decide +kernel
theorem dX4_score_5 : decode cX4_score 5 = .ok (.dup2, 1) := by decide +kernel
theorem dX4_score_6 : decode cX4_score 6 = .ok (.iaload, 1) := by decide +kernel
theorem dX4_score_7 : decode cX4_score 7 = .ok (.iload_n 2, 1) := by decide +kernel
theorem dX4_score_8 : decode cX4_score 8 = .ok (.iadd, 1) := by decide +kernel
theorem dX4_score_9 : decode cX4_score 9 = .ok (.iastore, 1) := by decide +kernel
theorem dX4_score_10 : decode cX4_score 10 = .ok (.aload_n 0, 1) := by decide +kernel
theorem dX4_score_11 : decode cX4_score 11 = .ok (.getfield 30, 3) := by decide +kernel
theorem dX4_score_14 : decode cX4_score 14 = .ok (.iload_n 1, 1) := by decide +kernel
theorem dX4_score_15 : decode cX4_score 15 = .ok (.dup2, 1) := by decide +kernel
theorem dX4_score_16 : decode cX4_score 16 = .ok (.iaload, 1) := by decide +kernel
theorem dX4_score_17 : decode cX4_score 17 = .ok (.iload_n 3, 1) := by decide +kernel
theorem dX4_score_18 : decode cX4_score 18 = .ok (.iadd, 1) := by decide +kernel
theorem dX4_score_19 : decode cX4_score 19 = .ok (.iastore, 1) := by decide +kernel
theorem dX4_score_20 : decode cX4_score 20 = .ok (.iload_n 2, 1) := by decide +kernel
theorem dX4_score_21 : decode cX4_score 21 = .ok (.iload_n 3, 1) := by decide +kernel
theorem dX4_score_22 : decode cX4_score 22 = .ok (.if_icmp .le 16, 3) := by decide +kernel
theorem dX4_score_25 : decode cX4_score 25 = .ok (.aload_n 0, 1) := by decide +kernel
theorem dX4_score_26 : decode cX4_score 26 = .ok (.getfield 24, 3) := by decide +kernel
theorem dX4_score_29 : decode cX4_score 29 = .ok (.iload_n 1, 1) := by decide +kernel
theorem dX4_score_30 : decode cX4_score 30 = .ok (.dup2, 1) := by decide +kernel
theorem dX4_score_31 : decode cX4_score 31 = .ok (.iaload, 1) := by decide +kernel
theorem dX4_score_32 : decode cX4_score 32 = .ok (.iconst 3, 1) := by decide +kernel
theorem dX4_score_33 : decode cX4_score 33 = .ok (.iadd, 1) := by decide +kernel
theorem dX4_score_34 : decode cX4_score 34 = .ok (.iastore, 1) := by decide +kernel
theorem dX4_score_35 : decode cX4_score 35 = .ok (.goto 18, 3) := by decide +kernel
theorem dX4_score_38 : decode cX4_score 38 = .ok (.iload_n 2, 1) := by decide +kernel
theorem dX4_score_39 : decode cX4_score 39 = .ok (.iload_n 3, 1) := by decide +kernel
theorem dX4_score_40 : decode cX4_score 40 = .ok (.if_icmp .ne 13, 3) := by decide +kernel
theorem dX4_score_43 : decode cX4_score 43 = .ok (.aload_n 0, 1) := by decide +kernel
theorem dX4_score_44 : decode cX4_score 44 = .ok (.getfield 24, 3) := by decide +kernel
theorem dX4_score_47 : decode cX4_score 47 = .ok (.iload_n 1, 1) := by decide +kernel
theorem dX4_score_48 : decode cX4_score 48 = .ok (.dup2, 1) := by decide +kernel
theorem dX4_score_49 : decode cX4_score 49 = .ok (.iaload, 1) := by decide +kernel
theorem dX4_score_50 : decode cX4_score 50 = .ok (.iconst 1, 1) := by decide +kernel
theorem dX4_score_51 : decode cX4_score 51 = .ok (.iadd, 1) := by decide +kernel
theorem dX4_score_52 : decode cX4_score 52 = .ok (.iastore, 1) := by decide +kernel
theorem dX4_score_53 : decode cX4_score 53 = .ok (.return_, 1) := by decide +kernel
theorem dX4_rankOf_0 : decode cX4_rankOf 0 = .ok (.iconst 0, 1) := by decide +kernel
theorem dX4_rankOf_1 : decode cX4_rankOf 1 = .ok (.istore_n 2, 1) := by decide +kernel
theorem dX4_rankOf_2 : decode cX4_rankOf 2 = .ok (.iconst 0, 1) := by decide +kernel
theorem dX4_rankOf_3 : decode cX4_rankOf 3 = .ok (.istore_n 3, 1) := by decide +kernel
theorem dX4_rankOf_4 : decode cX4_rankOf 4 = .ok (.iload_n 3, 1) := by decide +kernel
theorem dX4_rankOf_5 : decode cX4_rankOf 5 = .ok (.iconst 4, 1) := by decide +kernel
theorem dX4_rankOf_6 : decode cX4_rankOf 6 = .ok (.if_icmp .ge 26, 3) := by decide +kernel
theorem dX4_rankOf_9 : decode cX4_rankOf 9 = .ok (.iload_n 2, 1) := by decide +kernel
theorem dX4_rankOf_10 : decode cX4_rankOf 10 = .ok (.aload_n 0, 1) := by decide +kernel
theorem dX4_rankOf_11 : decode cX4_rankOf 11 = .ok (.iload_n 3, 1) := by decide +kernel
theorem dX4_rankOf_12 : decode cX4_rankOf 12 = .ok (.iload_n 1, 1) := by decide +kernel
theorem dX4_rankOf_13 : decode cX4_rankOf 13 = .ok (.invokevirtual 53, 3) := by decide +kernel
theorem dX4_rankOf_16 : decode cX4_rankOf 16 = .ok (.ifCond .eq 7, 3) := by decide +kernel
theorem dX4_rankOf_19 : decode cX4_rankOf 19 = .ok (.iconst 1, 1) := by decide +kernel
theorem dX4_rankOf_20 : decode cX4_rankOf 20 = .ok (.goto 4, 3) := by decide +kernel
theorem dX4_rankOf_23 : decode cX4_rankOf 23 = .ok (.iconst 0, 1) := by decide +kernel
theorem dX4_rankOf_24 : decode cX4_rankOf 24 = .ok (.iadd, 1) := by decide +kernel
theorem dX4_rankOf_25 : decode cX4_rankOf 25 = .ok (.istore_n 2, 1) := by decide +kernel
theorem dX4_rankOf_26 : decode cX4_rankOf 26 = .ok (.iinc 3 1, 3) := by decide +kernel
theorem dX4_rankOf_29 : decode cX4_rankOf 29 = .ok (.goto (-25), 3) := by decide +kernel
theorem dX4_rankOf_32 : decode cX4_rankOf 32 = .ok (.iload_n 2, 1) := by decide +kernel
theorem dX4_rankOf_33 : decode cX4_rankOf 33 = .ok (.ireturn, 1) := by decide +kernel
theorem dX4_isAbove_0 : decode cX4_isAbove 0 = .ok (.aload_n 0, 1) := by decide +kernel
theorem dX4_isAbove_1 : decode cX4_isAbove 1 = .ok (.getfield 24, 3) := by decide +kernel
theorem dX4_isAbove_4 : decode cX4_isAbove 4 = .ok (.iload_n 1, 1) := by decide +kernel
theorem dX4_isAbove_5 : decode cX4_isAbove 5 = .ok (.iaload, 1) := by decide +kernel
theorem dX4_isAbove_6 : decode cX4_isAbove 6 = .ok (.aload_n 0, 1) := by decide +kernel
theorem dX4_isAbove_7 : decode cX4_isAbove 7 = .ok (.getfield 24, 3) := by decide +kernel
theorem dX4_isAbove_10 : decode cX4_isAbove 10 = .ok (.iload_n 2, 1) := by decide +kernel
theorem dX4_isAbove_11 : decode cX4_isAbove 11 = .ok (.iaload, 1) := by decide +kernel
theorem dX4_isAbove_12 : decode cX4_isAbove 12 = .ok (.if_icmp .eq 24, 3) := by decide +kernel
theorem dX4_isAbove_15 : decode cX4_isAbove 15 = .ok (.aload_n 0, 1) := by decide +kernel
theorem dX4_isAbove_16 : decode cX4_isAbove 16 = .ok (.getfield 24, 3) := by decide +kernel
theorem dX4_isAbove_19 : decode cX4_isAbove 19 = .ok (.iload_n 1, 1) := by decide +kernel
theorem dX4_isAbove_20 : decode cX4_isAbove 20 = .ok (.iaload, 1) := by decide +kernel
theorem dX4_isAbove_21 : decode cX4_isAbove 21 = .ok (.aload_n 0, 1) := by decide +kernel
theorem dX4_isAbove_22 : decode cX4_isAbove 22 = .ok (.getfield 24, 3) := by decide +kernel
theorem dX4_isAbove_25 : decode cX4_isAbove 25 = .ok (.iload_n 2, 1) := by decide +kernel
theorem dX4_isAbove_26 : decode cX4_isAbove 26 = .ok (.iaload, 1) := by decide +kernel
theorem dX4_isAbove_27 : decode cX4_isAbove 27 = .ok (.if_icmp .le 7, 3) := by decide +kernel
theorem dX4_isAbove_30 : decode cX4_isAbove 30 = .ok (.iconst 1, 1) := by decide +kernel
theorem dX4_isAbove_31 : decode cX4_isAbove 31 = .ok (.goto 4, 3) := by decide +kernel
theorem dX4_isAbove_34 : decode cX4_isAbove 34 = .ok (.iconst 0, 1) := by decide +kernel
theorem dX4_isAbove_35 : decode cX4_isAbove 35 = .ok (.ireturn, 1) := by decide +kernel
theorem dX4_isAbove_36 : decode cX4_isAbove 36 = .ok (.aload_n 0, 1) := by decide +kernel
theorem dX4_isAbove_37 : decode cX4_isAbove 37 = .ok (.getfield 27, 3) := by decide +kernel
theorem dX4_isAbove_40 : decode cX4_isAbove 40 = .ok (.iload_n 1, 1) := by decide +kernel
theorem dX4_isAbove_41 : decode cX4_isAbove 41 = .ok (.iaload, 1) := by decide +kernel
theorem dX4_isAbove_42 : decode cX4_isAbove 42 = .ok (.aload_n 0, 1) := by decide +kernel
theorem dX4_isAbove_43 : decode cX4_isAbove 43 = .ok (.getfield 30, 3) := by decide +kernel
theorem dX4_isAbove_46 : decode cX4_isAbove 46 = .ok (.iload_n 1, 1) := by decide +kernel
theorem dX4_isAbove_47 : decode cX4_isAbove 47 = .ok (.iaload, 1) := by decide +kernel
theorem dX4_isAbove_48 : decode cX4_isAbove 48 = .ok (.isub, 1) := by decide +kernel
theorem dX4_isAbove_49 : decode cX4_isAbove 49 = .ok (.istore_n 3, 1) := by decide +kernel
theorem dX4_isAbove_50 : decode cX4_isAbove 50 = .ok (.aload_n 0, 1) := by decide +kernel
theorem dX4_isAbove_51 : decode cX4_isAbove 51 = .ok (.getfield 27, 3) := by decide +kernel
theorem dX4_isAbove_54 : decode cX4_isAbove 54 = .ok (.iload_n 2, 1) := by decide +kernel
theorem dX4_isAbove_55 : decode cX4_isAbove 55 = .ok (.iaload, 1) := by decide +kernel
theorem dX4_isAbove_56 : decode cX4_isAbove 56 = .ok (.aload_n 0, 1) := by decide +kernel
theorem dX4_isAbove_57 : decode cX4_isAbove 57 = .ok (.getfield 30, 3) := by decide +kernel
theorem dX4_isAbove_60 : decode cX4_isAbove 60 = .ok (.iload_n 2, 1) := by decide +kernel
theorem dX4_isAbove_61 : decode cX4_isAbove 61 = .ok (.iaload, 1) := by decide +kernel
theorem dX4_isAbove_62 : decode cX4_isAbove 62 = .ok (.isub, 1) := by decide +kernel
theorem dX4_isAbove_63 : decode cX4_isAbove 63 = .ok (.istore 4, 2) := by decide +kernel
theorem dX4_isAbove_65 : decode cX4_isAbove 65 = .ok (.iload_n 3, 1) := by decide +kernel
theorem dX4_isAbove_66 : decode cX4_isAbove 66 = .ok (.iload 4, 2) := by decide +kernel
theorem dX4_isAbove_68 : decode cX4_isAbove 68 = .ok (.if_icmp .eq 17, 3) := by decide +kernel
theorem dX4_isAbove_71 : decode cX4_isAbove 71 = .ok (.iload_n 3, 1) := by decide +kernel
theorem dX4_isAbove_72 : decode cX4_isAbove 72 = .ok (.iload 4, 2) := by decide +kernel
theorem dX4_isAbove_74 : decode cX4_isAbove 74 = .ok (.if_icmp .le 7, 3) := by decide +kernel
theorem dX4_isAbove_77 : decode cX4_isAbove 77 = .ok (.iconst 1, 1) := by decide +kernel
theorem dX4_isAbove_78 : decode cX4_isAbove 78 = .ok (.goto 27, 3) := by decide +kernel
theorem dX4_isAbove_81 : decode cX4_isAbove 81 = .ok (.iconst 0, 1) := by decide +kernel
theorem dX4_isAbove_82 : decode cX4_isAbove 82 = .ok (.goto 23, 3) := by decide +kernel
theorem dX4_isAbove_85 : decode cX4_isAbove 85 = .ok (.aload_n 0, 1) := by decide +kernel
theorem dX4_isAbove_86 : decode cX4_isAbove 86 = .ok (.getfield 27, 3) := by decide +kernel
theorem dX4_isAbove_89 : decode cX4_isAbove 89 = .ok (.iload_n 1, 1) := by decide +kernel
theorem dX4_isAbove_90 : decode cX4_isAbove 90 = .ok (.iaload, 1) := by decide +kernel
theorem dX4_isAbove_91 : decode cX4_isAbove 91 = .ok (.aload_n 0, 1) := by decide +kernel
theorem dX4_isAbove_92 : decode cX4_isAbove 92 = .ok (.getfield 27, 3) := by decide +kernel
theorem dX4_isAbove_95 : decode cX4_isAbove 95 = .ok (.iload_n 2, 1) := by decide +kernel
theorem dX4_isAbove_96 : decode cX4_isAbove 96 = .ok (.iaload, 1) := by decide +kernel
theorem dX4_isAbove_97 : decode cX4_isAbove 97 = .ok (.if_icmp .le 7, 3) := by decide +kernel
theorem dX4_isAbove_100 : decode cX4_isAbove 100 = .ok (.iconst 1, 1) := by decide +kernel
theorem dX4_isAbove_101 : decode cX4_isAbove 101 = .ok (.goto 4, 3) := by decide +kernel
theorem dX4_isAbove_104 : decode cX4_isAbove 104 = .ok (.iconst 0, 1) := by decide +kernel
theorem dX4_isAbove_105 : decode cX4_isAbove 105 = .ok (.ireturn, 1) := by decide +kernel
theorem dX4_allRanks_0 : decode cX4_allRanks 0 = .ok (.iconst 0, 1) := by decide +kernel
theorem dX4_allRanks_1 : decode cX4_allRanks 1 = .ok (.istore_n 1, 1) := by decide +kernel
theorem dX4_allRanks_2 : decode cX4_allRanks 2 = .ok (.iconst 0, 1) := by decide +kernel
theorem dX4_allRanks_3 : decode cX4_allRanks 3 = .ok (.istore_n 2, 1) := by decide +kernel
theorem dX4_allRanks_4 : decode cX4_allRanks 4 = .ok (.iload_n 2, 1) := by decide +kernel
theorem dX4_allRanks_5 : decode cX4_allRanks 5 = .ok (.iconst 4, 1) := by decide +kernel
theorem dX4_allRanks_6 : decode cX4_allRanks 6 = .ok (.if_icmp .ge 19, 3) := by decide +kernel
theorem dX4_allRanks_9 : decode cX4_allRanks 9 = .ok (.iload_n 1, 1) := by decide +kernel
theorem dX4_allRanks_10 : decode cX4_allRanks 10 = .ok (.iconst 4, 1) := by decide +kernel
theorem dX4_allRanks_11 : decode cX4_allRanks 11 = .ok (.imul, 1) := by decide +kernel
theorem dX4_allRanks_12 : decode cX4_allRanks 12 = .ok (.aload_n 0, 1) := by decide +kernel
theorem dX4_allRanks_13 : decode cX4_allRanks 13 = .ok (.iload_n 2, 1) := by decide +kernel
theorem dX4_allRanks_14 : decode cX4_allRanks 14 = .ok (.invokevirtual 57, 3) := by decide +kernel
theorem dX4_allRanks_17 : decode cX4_allRanks 17 = .ok (.iadd, 1) := by decide +kernel
theorem dX4_allRanks_18 : decode cX4_allRanks 18 = .ok (.istore_n 1, 1) := by decide +kernel
theorem dX4_allRanks_19 : decode cX4_allRanks 19 = .ok (.iinc 2 1, 3) := by decide +kernel
theorem dX4_allRanks_22 : decode cX4_allRanks 22 = .ok (.goto (-18), 3) := by decide +kernel
theorem dX4_allRanks_25 : decode cX4_allRanks 25 = .ok (.iload_n 1, 1) := by decide +kernel
theorem dX4_allRanks_26 : decode cX4_allRanks 26 = .ok (.ireturn, 1) := by decide +kernel
theorem dX5_init_0 : decode cX5_init 0 = .ok (.aload_n 0, 1) := by decide +kernel
theorem dX5_init_1 : decode cX5_init 1 = .ok (.invokespecial 3, 3) := by decide +kernel
theorem dX5_init_4 : decode cX5_init 4 = .ok (.aload_n 0, 1) := by decide +kernel
theorem dX5_init_5 : decode cX5_init 5 = .ok (.new 9, 3) := by decide +kernel
theorem dX5_init_8 : decode cX5_init 8 = .ok (.dup, 1) := by decide +kernel
theorem dX5_init_9 : decode cX5_init 9 = .ok (.invokespecial 11, 3) := by decide +kernel
theorem dX5_init_12 : decode cX5_init 12 = .ok (.putfield 12, 3) := by decide +kernel
theorem dX5_init_15 : decode cX5_init 15 = .ok (.aload_n 0, 1) := by decide +kernel
theorem dX5_init_16 : decode cX5_init 16 = .ok (.new 18, 3) := by decide +kernel
theorem dX5_init_19 : decode cX5_init 19 = .ok (.dup, 1) := by decide +kernel
theorem dX5_init_20 : decode cX5_init 20 = .ok (.invokespecial 20, 3) := by decide +kernel
theorem dX5_init_23 : decode cX5_init 23 = .ok (.putfield 21, 3) := by decide +kernel
theorem dX5_init_26 : decode cX5_init 26 = .ok (.aload_n 0, 1) := by decide +kernel
theorem dX5_init_27 : decode cX5_init 27 = .ok (.new 25, 3) := by decide +kernel
theorem dX5_init_30 : decode cX5_init 30 = .ok (.dup, 1) := by decide +kernel
theorem dX5_init_31 : decode cX5_init 31 = .ok (.invokespecial 27, 3) := by decide +kernel
theorem dX5_init_34 : decode cX5_init 34 = .ok (.putfield 28, 3) := by decide +kernel
theorem dX5_init_37 : decode cX5_init 37 = .ok (.aload_n 0, 1) := by decide +kernel
theorem dX5_init_38 : decode cX5_init 38 = .ok (.new 32, 3) := by decide +kernel
theorem dX5_init_41 : decode cX5_init 41 = .ok (.dup, 1) := by decide +kernel
theorem dX5_init_42 : decode cX5_init 42 = .ok (.invokespecial 34, 3) := by decide +kernel
theorem dX5_init_45 : decode cX5_init 45 = .ok (.putfield 35, 3) := by decide +kernel
theorem dX5_init_48 : decode cX5_init 48 = .ok (.aload_n 0, 1) := by decide +kernel
theorem dX5_init_49 : decode cX5_init 49 = .ok (.new 39, 3) := by decide +kernel
theorem dX5_init_52 : decode cX5_init 52 = .ok (.dup, 1) := by decide +kernel
theorem dX5_init_53 : decode cX5_init 53 = .ok (.invokespecial 41, 3) := by decide +kernel
theorem dX5_init_56 : decode cX5_init 56 = .ok (.putfield 42, 3) := by decide +kernel
theorem dX5_init_59 : decode cX5_init 59 = .ok (.aload_n 0, 1) := by decide +kernel
theorem dX5_init_60 : decode cX5_init 60 = .ok (.iconst (-1), 1) := by decide +kernel
theorem dX5_init_61 : decode cX5_init 61 = .ok (.putfield 46, 3) := by decide +kernel
theorem dX5_init_64 : decode cX5_init 64 = .ok (.return_, 1) := by decide +kernel
theorem dX5_lookAs_0 : decode cX5_lookAs 0 = .ok (.aload_n 0, 1) := by decide +kernel
theorem dX5_lookAs_1 : decode cX5_lookAs 1 = .ok (.iload_n 1, 1) := by decide +kernel
theorem dX5_lookAs_2 : decode cX5_lookAs 2 = .ok (.iconst (-1), 1) := by decide +kernel
theorem dX5_lookAs_3 : decode cX5_lookAs 3 = .ok (.iconst 0, 1) := by decide +kernel
theorem dX5_lookAs_4 : decode cX5_lookAs 4 = .ok (.invokevirtual 50, 3) := by decide +kernel
theorem dX5_lookAs_7 : decode cX5_lookAs 7 = .ok (.return_, 1) := by decide +kernel
theorem dX5_lookAsStanding_0 : decode cX5_lookAsStanding 0 = .ok (.aload_n 0, 1) := by decide +kernel
theorem dX5_lookAsStanding_1 : decode cX5_lookAsStanding 1 = .ok (.iload_n 1, 1) := by decide +kernel
theorem dX5_lookAsStanding_2 : decode cX5_lookAsStanding 2 = .ok (.putfield 54, 3) := by decide +kernel
theorem dX5_lookAsStanding_5 : decode cX5_lookAsStanding 5 = .ok (.aload_n 0, 1) := by decide +kernel
theorem dX5_lookAsStanding_6 : decode cX5_lookAsStanding 6 = .ok (.iload_n 2, 1) := by decide +kernel
theorem dX5_lookAsStanding_7 : decode cX5_lookAsStanding 7 = .ok (.putfield 46, 3) := by decide +kernel
theorem dX5_lookAsStanding_10 : decode cX5_lookAsStanding 10 = .ok (.aload_n 0, 1) := by decide +kernel
theorem dX5_lookAsStanding_11 : decode cX5_lookAsStanding 11 = .ok (.iload_n 3, 1) := by decide +kernel
theorem dX5_lookAsStanding_12 : decode cX5_lookAsStanding 12 = .ok (.putfield 57, 3) := by decide +kernel
theorem dX5_lookAsStanding_15 : decode cX5_lookAsStanding 15 = .ok (.return_, 1) := by decide +kernel
theorem dX5_whereIs_0 : decode cX5_whereIs 0 = .ok (.aload_n 0, 1) := by decide +kernel
theorem dX5_whereIs_1 : decode cX5_whereIs 1 = .ok (.getfield 12, 3) := by decide +kernel
theorem dX5_whereIs_4 : decode cX5_whereIs 4 = .ok (.getfield 60, 3) := by decide +kernel
theorem dX5_whereIs_7 : decode cX5_whereIs 7 = .ok (.iload_n 1, 1) := by decide +kernel
theorem dX5_whereIs_8 : decode cX5_whereIs 8 = .ok (.iaload, 1) := by decide +kernel
theorem dX5_whereIs_9 : decode cX5_whereIs 9 = .ok (.aload_n 0, 1) := by decide +kernel
theorem dX5_whereIs_10 : decode cX5_whereIs 10 = .ok (.getfield 46, 3) := by decide +kernel
theorem dX5_whereIs_13 : decode cX5_whereIs 13 = .ok (.if_icmp .ne 10, 3) := by decide +kernel
theorem dX5_whereIs_16 : decode cX5_whereIs 16 = .ok (.aload_n 0, 1) := by decide +kernel
theorem dX5_whereIs_17 : decode cX5_whereIs 17 = .ok (.getfield 57, 3) := by decide +kernel
theorem dX5_whereIs_20 : decode cX5_whereIs 20 = .ok (.goto 4, 3) := by decide +kernel
theorem dX5_whereIs_23 : decode cX5_whereIs 23 = .ok (.iconst 0, 1) := by decide +kernel
theorem dX5_whereIs_24 : decode cX5_whereIs 24 = .ok (.istore_n 3, 1) := by decide +kernel
theorem dX5_whereIs_25 : decode cX5_whereIs 25 = .ok (.aload_n 0, 1) := by decide +kernel
theorem dX5_whereIs_26 : decode cX5_whereIs 26 = .ok (.getfield 12, 3) := by decide +kernel
theorem dX5_whereIs_29 : decode cX5_whereIs 29 = .ok (.getfield 64, 3) := by decide +kernel
theorem dX5_whereIs_32 : decode cX5_whereIs 32 = .ok (.iload_n 1, 1) := by decide +kernel
theorem dX5_whereIs_33 : decode cX5_whereIs 33 = .ok (.iaload, 1) := by decide +kernel
theorem dX5_whereIs_34 : decode cX5_whereIs 34 = .ok (.iload_n 3, 1) := by decide +kernel
theorem dX5_whereIs_35 : decode cX5_whereIs 35 = .ok (.isub, 1) := by decide +kernel
theorem dX5_whereIs_36 : decode cX5_whereIs 36 = .ok (.iload_n 2, 1) := by decide +kernel
theorem dX5_whereIs_37 : decode cX5_whereIs 37 = .ok (.aload_n 0, 1) := by decide +kernel
theorem dX5_whereIs_38 : decode cX5_whereIs 38 = .ok (.getfield 12, 3) := by decide +kernel
theorem dX5_whereIs_41 : decode cX5_whereIs 41 = .ok (.getfield 67, 3) := by decide +kernel
theorem dX5_whereIs_44 : decode cX5_whereIs 44 = .ok (.iload_n 1, 1) := by decide +kernel
theorem dX5_whereIs_45 : decode cX5_whereIs 45 = .ok (.iaload, 1) := by decide +kernel
theorem dX5_whereIs_46 : decode cX5_whereIs 46 = .ok (.imul, 1) := by decide +kernel
theorem dX5_whereIs_47 : decode cX5_whereIs 47 = .ok (.iadd, 1) := by decide +kernel
theorem dX5_whereIs_48 : decode cX5_whereIs 48 = .ok (.ireturn, 1) := by decide +kernel
theorem dX5_leadOf_0 : decode cX5_leadOf 0 = .ok (.aload_n 0, 1) := by decide +kernel
theorem dX5_leadOf_1 : decode cX5_leadOf 1 = .ok (.getfield 35, 3) := by decide +kernel
theorem dX5_leadOf_4 : decode cX5_leadOf 4 = .ok (.aload_n 0, 1) := by decide +kernel
theorem dX5_leadOf_5 : decode cX5_leadOf 5 = .ok (.getfield 12, 3) := by decide +kernel
theorem dX5_leadOf_8 : decode cX5_leadOf 8 = .ok (.getfield 67, 3) := by decide +kernel
theorem dX5_leadOf_11 : decode cX5_leadOf 11 = .ok (.iload_n 1, 1) := by decide +kernel
theorem dX5_leadOf_12 : decode cX5_leadOf 12 = .ok (.iaload, 1) := by decide +kernel
theorem dX5_leadOf_13 : decode cX5_leadOf 13 = .ok (.aload_n 0, 1) := by decide +kernel
theorem dX5_leadOf_14 : decode cX5_leadOf 14 = .ok (.getfield 12, 3) := by decide +kernel
theorem dX5_leadOf_17 : decode cX5_leadOf 17 = .ok (.getfield 60, 3) := by decide +kernel
theorem dX5_leadOf_20 : decode cX5_leadOf 20 = .ok (.iload_n 1, 1) := by decide +kernel
theorem dX5_leadOf_21 : decode cX5_leadOf 21 = .ok (.iaload, 1) := by decide +kernel
theorem dX5_leadOf_22 : decode cX5_leadOf 22 = .ok (.iload_n 2, 1) := by decide +kernel
theorem dX5_leadOf_23 : decode cX5_leadOf 23 = .ok (.aload_n 0, 1) := by decide +kernel
theorem dX5_leadOf_24 : decode cX5_leadOf 24 = .ok (.getfield 54, 3) := by decide +kernel
theorem dX5_leadOf_27 : decode cX5_leadOf 27 = .ok (.invokevirtual 70, 3) := by decide +kernel
theorem dX5_leadOf_30 : decode cX5_leadOf 30 = .ok (.iconst (-1), 1) := by decide +kernel
theorem dX5_leadOf_31 : decode cX5_leadOf 31 = .ok (.istore_n 3, 1) := by decide +kernel
theorem dX5_leadOf_32 : decode cX5_leadOf 32 = .ok (.iconst 0, 1) := by decide +kernel
theorem dX5_leadOf_33 : decode cX5_leadOf 33 = .ok (.istore 4, 2) := by decide +kernel
theorem dX5_leadOf_35 : decode cX5_leadOf 35 = .ok (.iload 4, 2) := by decide +kernel
theorem dX5_leadOf_37 : decode cX5_leadOf 37 = .ok (.iconst 4, 1) := by decide +kernel
theorem dX5_leadOf_38 : decode cX5_leadOf 38 = .ok (.if_icmp .ge 70, 3) := by decide +kernel
theorem dX5_leadOf_41 : decode cX5_leadOf 41 = .ok (.aload_n 0, 1) := by decide +kernel
theorem dX5_leadOf_42 : decode cX5_leadOf 42 = .ok (.getfield 12, 3) := by decide +kernel
theorem dX5_leadOf_45 : decode cX5_leadOf 45 = .ok (.iload_n 1, 1) := by decide +kernel
theorem dX5_leadOf_46 : decode cX5_leadOf 46 = .ok (.iload 4, 2) := by decide +kernel
theorem dX5_leadOf_48 : decode cX5_leadOf 48 = .ok (.invokevirtual 74, 3) := by decide +kernel
theorem dX5_leadOf_51 : decode cX5_leadOf 51 = .ok (.istore 5, 2) := by decide +kernel
theorem dX5_leadOf_53 : decode cX5_leadOf 53 = .ok (.iload_n 3, 1) := by decide +kernel
theorem dX5_leadOf_54 : decode cX5_leadOf 54 = .ok (.iconst (-1), 1) := by decide +kernel
theorem dX5_leadOf_55 : decode cX5_leadOf 55 = .ok (.if_icmp .eq 17, 3) := by decide +kernel
theorem dX5_leadOf_58 : decode cX5_leadOf 58 = .ok (.iload 5, 2) := by decide +kernel
theorem dX5_leadOf_60 : decode cX5_leadOf 60 = .ok (.aload_n 0, 1) := by decide +kernel
theorem dX5_leadOf_61 : decode cX5_leadOf 61 = .ok (.getfield 12, 3) := by decide +kernel
theorem dX5_leadOf_64 : decode cX5_leadOf 64 = .ok (.iload_n 1, 1) := by decide +kernel
theorem dX5_leadOf_65 : decode cX5_leadOf 65 = .ok (.iload_n 3, 1) := by decide +kernel
theorem dX5_leadOf_66 : decode cX5_leadOf 66 = .ok (.invokevirtual 74, 3) := by decide +kernel
theorem dX5_leadOf_69 : decode cX5_leadOf 69 = .ok (.if_icmp .le 7, 3) := by decide +kernel
theorem dX5_leadOf_72 : decode cX5_leadOf 72 = .ok (.iconst 1, 1) := by decide +kernel
theorem dX5_leadOf_73 : decode cX5_leadOf 73 = .ok (.goto 4, 3) := by decide +kernel
theorem dX5_leadOf_76 : decode cX5_leadOf 76 = .ok (.iconst 0, 1) := by decide +kernel
theorem dX5_leadOf_77 : decode cX5_leadOf 77 = .ok (.istore 6, 2) := by decide +kernel
theorem dX5_leadOf_79 : decode cX5_leadOf 79 = .ok (.iload 6, 2) := by decide +kernel
theorem dX5_leadOf_81 : decode cX5_leadOf 81 = .ok (.ifCond .eq 21, 3) := by decide +kernel
theorem dX5_leadOf_84 : decode cX5_leadOf 84 = .ok (.aload_n 0, 1) := by decide +kernel
theorem dX5_leadOf_85 : decode cX5_leadOf 85 = .ok (.getfield 35, 3) := by decide +kernel
theorem dX5_leadOf_88 : decode cX5_leadOf 88 = .ok (.iconst 0, 1) := by decide +kernel
theorem dX5_leadOf_89 : decode cX5_leadOf 89 = .ok (.iload 4, 2) := by decide +kernel
theorem dX5_leadOf_91 : decode cX5_leadOf 91 = .ok (.iload 5, 2) := by decide +kernel
theorem dX5_leadOf_93 : decode cX5_leadOf 93 = .ok (.invokevirtual 78, 3) := by decide +kernel
theorem dX5_leadOf_96 : decode cX5_leadOf 96 = .ok (.ifCond .eq 6, 3) := by decide +kernel
theorem dX5_leadOf_99 : decode cX5_leadOf 99 = .ok (.iload 4, 2) := by decide +kernel
theorem dX5_leadOf_101 : decode cX5_leadOf 101 = .ok (.istore_n 3, 1) := by decide +kernel
theorem dX5_leadOf_102 : decode cX5_leadOf 102 = .ok (.iinc 4 1, 3) := by decide +kernel
theorem dX5_leadOf_105 : decode cX5_leadOf 105 = .ok (.goto (-70), 3) := by decide +kernel
theorem dX5_leadOf_108 : decode cX5_leadOf 108 = .ok (.iload_n 3, 1) := by decide +kernel
theorem dX5_leadOf_109 : decode cX5_leadOf 109 = .ok (.ireturn, 1) := by decide +kernel
theorem dX5_frontOf_0 : decode cX5_frontOf 0 = .ok (.aload_n 0, 1) := by decide +kernel
theorem dX5_frontOf_1 : decode cX5_frontOf 1 = .ok (.iload_n 1, 1) := by decide +kernel
theorem dX5_frontOf_2 : decode cX5_frontOf 2 = .ok (.iload_n 2, 1) := by decide +kernel
theorem dX5_frontOf_3 : decode cX5_frontOf 3 = .ok (.invokevirtual 82, 3) := by decide +kernel
theorem dX5_frontOf_6 : decode cX5_frontOf 6 = .ok (.istore_n 3, 1) := by decide +kernel
theorem dX5_frontOf_7 : decode cX5_frontOf 7 = .ok (.iload_n 3, 1) := by decide +kernel
theorem dX5_frontOf_8 : decode cX5_frontOf 8 = .ok (.iconst (-1), 1) := by decide +kernel
theorem dX5_frontOf_9 : decode cX5_frontOf 9 = .ok (.if_icmp .ne 7, 3) := by decide +kernel
theorem dX5_frontOf_12 : decode cX5_frontOf 12 = .ok (.iconst 0, 1) := by decide +kernel
theorem dX5_frontOf_13 : decode cX5_frontOf 13 = .ok (.goto 12, 3) := by decide +kernel
theorem dX5_frontOf_16 : decode cX5_frontOf 16 = .ok (.aload_n 0, 1) := by decide +kernel
theorem dX5_frontOf_17 : decode cX5_frontOf 17 = .ok (.getfield 12, 3) := by decide +kernel
theorem dX5_frontOf_20 : decode cX5_frontOf 20 = .ok (.iload_n 1, 1) := by decide +kernel
theorem dX5_frontOf_21 : decode cX5_frontOf 21 = .ok (.iload_n 3, 1) := by decide +kernel
theorem dX5_frontOf_22 : decode cX5_frontOf 22 = .ok (.invokevirtual 74, 3) := by decide +kernel
theorem dX5_frontOf_25 : decode cX5_frontOf 25 = .ok (.istore 4, 2) := by decide +kernel
theorem dX5_frontOf_27 : decode cX5_frontOf 27 = .ok (.aload_n 0, 1) := by decide +kernel
theorem dX5_frontOf_28 : decode cX5_frontOf 28 = .ok (.iload_n 1, 1) := by decide +kernel
theorem dX5_frontOf_29 : decode cX5_frontOf 29 = .ok (.iload_n 2, 1) := by decide +kernel
theorem dX5_frontOf_30 : decode cX5_frontOf 30 = .ok (.invokevirtual 85, 3) := by decide +kernel
theorem dX5_frontOf_33 : decode cX5_frontOf 33 = .ok (.iload 4, 2) := by decide +kernel
theorem dX5_frontOf_35 : decode cX5_frontOf 35 = .ok (.iadd, 1) := by decide +kernel
theorem dX5_frontOf_36 : decode cX5_frontOf 36 = .ok (.ireturn, 1) := by decide +kernel
theorem dX5_worthOf_0 : decode cX5_worthOf 0 = .ok (.aload_n 0, 1) := by decide +kernel
theorem dX5_worthOf_1 : decode cX5_worthOf 1 = .ok (.getfield 35, 3) := by decide +kernel
theorem dX5_worthOf_4 : decode cX5_worthOf 4 = .ok (.aload_n 0, 1) := by decide +kernel
theorem dX5_worthOf_5 : decode cX5_worthOf 5 = .ok (.getfield 12, 3) := by decide +kernel
theorem dX5_worthOf_8 : decode cX5_worthOf 8 = .ok (.getfield 67, 3) := by decide +kernel
theorem dX5_worthOf_11 : decode cX5_worthOf 11 = .ok (.iload_n 1, 1) := by decide +kernel
theorem dX5_worthOf_12 : decode cX5_worthOf 12 = .ok (.iaload, 1) := by decide +kernel
theorem dX5_worthOf_13 : decode cX5_worthOf 13 = .ok (.aload_n 0, 1) := by decide +kernel
theorem dX5_worthOf_14 : decode cX5_worthOf 14 = .ok (.getfield 12, 3) := by decide +kernel
theorem dX5_worthOf_17 : decode cX5_worthOf 17 = .ok (.getfield 60, 3) := by decide +kernel
theorem dX5_worthOf_20 : decode cX5_worthOf 20 = .ok (.iload_n 1, 1) := by decide +kernel
theorem dX5_worthOf_21 : decode cX5_worthOf 21 = .ok (.iaload, 1) := by decide +kernel
theorem dX5_worthOf_22 : decode cX5_worthOf 22 = .ok (.iload_n 3, 1) := by decide +kernel
theorem dX5_worthOf_23 : decode cX5_worthOf 23 = .ok (.aload_n 0, 1) := by decide +kernel
theorem dX5_worthOf_24 : decode cX5_worthOf 24 = .ok (.getfield 54, 3) := by decide +kernel
theorem dX5_worthOf_27 : decode cX5_worthOf 27 = .ok (.invokevirtual 70, 3) := by decide +kernel
theorem dX5_worthOf_30 : decode cX5_worthOf 30 = .ok (.aload_n 0, 1) := by decide +kernel
theorem dX5_worthOf_31 : decode cX5_worthOf 31 = .ok (.getfield 35, 3) := by decide +kernel
theorem dX5_worthOf_34 : decode cX5_worthOf 34 = .ok (.iload 4, 2) := by decide +kernel
theorem dX5_worthOf_36 : decode cX5_worthOf 36 = .ok (.iload_n 2, 1) := by decide +kernel
theorem dX5_worthOf_37 : decode cX5_worthOf 37 = .ok (.aload_n 0, 1) := by decide +kernel
theorem dX5_worthOf_38 : decode cX5_worthOf 38 = .ok (.getfield 12, 3) := by decide +kernel
theorem dX5_worthOf_41 : decode cX5_worthOf 41 = .ok (.iload_n 1, 1) := by decide +kernel
theorem dX5_worthOf_42 : decode cX5_worthOf 42 = .ok (.iload_n 2, 1) := by decide +kernel
theorem dX5_worthOf_43 : decode cX5_worthOf 43 = .ok (.invokevirtual 74, 3) := by decide +kernel
theorem dX5_worthOf_46 : decode cX5_worthOf 46 = .ok (.invokevirtual 78, 3) := by decide +kernel
theorem dX5_worthOf_49 : decode cX5_worthOf 49 = .ok (.ireturn, 1) := by decide +kernel
theorem dX5_ruledOn_0 : decode cX5_ruledOn 0 = .ok (.aload_n 0, 1) := by decide +kernel
theorem dX5_ruledOn_1 : decode cX5_ruledOn 1 = .ok (.iload_n 1, 1) := by decide +kernel
theorem dX5_ruledOn_2 : decode cX5_ruledOn 2 = .ok (.aload_n 0, 1) := by decide +kernel
theorem dX5_ruledOn_3 : decode cX5_ruledOn 3 = .ok (.iload_n 1, 1) := by decide +kernel
theorem dX5_ruledOn_4 : decode cX5_ruledOn 4 = .ok (.iload_n 2, 1) := by decide +kernel
theorem dX5_ruledOn_5 : decode cX5_ruledOn 5 = .ok (.invokevirtual 82, 3) := by decide +kernel
theorem dX5_ruledOn_8 : decode cX5_ruledOn 8 = .ok (.invokestatic 88, 3) := by decide +kernel
theorem dX5_ruledOn_11 : decode cX5_ruledOn 11 = .ok (.iload_n 2, 1) := by decide +kernel
theorem dX5_ruledOn_12 : decode cX5_ruledOn 12 = .ok (.iload_n 3, 1) := by decide +kernel
theorem dX5_ruledOn_13 : decode cX5_ruledOn 13 = .ok (.invokevirtual 92, 3) := by decide +kernel
theorem dX5_ruledOn_16 : decode cX5_ruledOn 16 = .ok (.ireturn, 1) := by decide +kernel
theorem dX5_trueMargin_0 : decode cX5_trueMargin 0 = .ok (.aload_n 0, 1) := by decide +kernel
theorem dX5_trueMargin_1 : decode cX5_trueMargin 1 = .ok (.aload_n 0, 1) := by decide +kernel
theorem dX5_trueMargin_2 : decode cX5_trueMargin 2 = .ok (.getfield 42, 3) := by decide +kernel
theorem dX5_trueMargin_5 : decode cX5_trueMargin 5 = .ok (.getfield 96, 3) := by decide +kernel
theorem dX5_trueMargin_8 : decode cX5_trueMargin 8 = .ok (.iload_n 1, 1) := by decide +kernel
theorem dX5_trueMargin_9 : decode cX5_trueMargin 9 = .ok (.iaload, 1) := by decide +kernel
theorem dX5_trueMargin_10 : decode cX5_trueMargin 10 = .ok (.iload_n 2, 1) := by decide +kernel
theorem dX5_trueMargin_11 : decode cX5_trueMargin 11 = .ok (.invokevirtual 99, 3) := by decide +kernel
theorem dX5_trueMargin_14 : decode cX5_trueMargin 14 = .ok (.aload_n 0, 1) := by decide +kernel
theorem dX5_trueMargin_15 : decode cX5_trueMargin 15 = .ok (.aload_n 0, 1) := by decide +kernel
theorem dX5_trueMargin_16 : decode cX5_trueMargin 16 = .ok (.getfield 42, 3) := by decide +kernel
theorem dX5_trueMargin_19 : decode cX5_trueMargin 19 = .ok (.getfield 102, 3) := by decide +kernel
theorem dX5_trueMargin_22 : decode cX5_trueMargin 22 = .ok (.iload_n 1, 1) := by decide +kernel
theorem dX5_trueMargin_23 : decode cX5_trueMargin 23 = .ok (.iaload, 1) := by decide +kernel
theorem dX5_trueMargin_24 : decode cX5_trueMargin 24 = .ok (.iload_n 2, 1) := by decide +kernel
theorem dX5_trueMargin_25 : decode cX5_trueMargin 25 = .ok (.invokevirtual 99, 3) := by decide +kernel
theorem dX5_trueMargin_28 : decode cX5_trueMargin 28 = .ok (.isub, 1) := by decide +kernel
theorem dX5_trueMargin_29 : decode cX5_trueMargin 29 = .ok (.ireturn, 1) := by decide +kernel
theorem dX5_leanOn_0 : decode cX5_leanOn 0 = .ok (.aload_n 0, 1) := by decide +kernel
theorem dX5_leanOn_1 : decode cX5_leanOn 1 = .ok (.getfield 28, 3) := by decide +kernel
theorem dX5_leanOn_4 : decode cX5_leanOn 4 = .ok (.getfield 105, 3) := by decide +kernel
theorem dX5_leanOn_7 : decode cX5_leanOn 7 = .ok (.aload_n 0, 1) := by decide +kernel
theorem dX5_leanOn_8 : decode cX5_leanOn 8 = .ok (.getfield 42, 3) := by decide +kernel
theorem dX5_leanOn_11 : decode cX5_leanOn 11 = .ok (.getfield 108, 3) := by decide +kernel
theorem dX5_leanOn_14 : decode cX5_leanOn 14 = .ok (.iload_n 1, 1) := by decide +kernel
theorem dX5_leanOn_15 : decode cX5_leanOn 15 = .ok (.iaload, 1) := by decide +kernel
theorem dX5_leanOn_16 : decode cX5_leanOn 16 = .ok (.iaload, 1) := by decide +kernel
theorem dX5_leanOn_17 : decode cX5_leanOn 17 = .ok (.istore_n 3, 1) := by decide +kernel
theorem dX5_leanOn_18 : decode cX5_leanOn 18 = .ok (.aload_n 0, 1) := by decide +kernel
theorem dX5_leanOn_19 : decode cX5_leanOn 19 = .ok (.getfield 12, 3) := by decide +kernel
theorem dX5_leanOn_22 : decode cX5_leanOn 22 = .ok (.getfield 67, 3) := by decide +kernel
theorem dX5_leanOn_25 : decode cX5_leanOn 25 = .ok (.iload_n 2, 1) := by decide +kernel
theorem dX5_leanOn_26 : decode cX5_leanOn 26 = .ok (.iaload, 1) := by decide +kernel
theorem dX5_leanOn_27 : decode cX5_leanOn 27 = .ok (.ifCond .le 7, 3) := by decide +kernel
theorem dX5_leanOn_30 : decode cX5_leanOn 30 = .ok (.iload_n 3, 1) := by decide +kernel
theorem dX5_leanOn_31 : decode cX5_leanOn 31 = .ok (.goto 5, 3) := by decide +kernel
theorem dX5_leanOn_34 : decode cX5_leanOn 34 = .ok (.iload_n 3, 1) := by decide +kernel
theorem dX5_leanOn_35 : decode cX5_leanOn 35 = .ok (.ineg, 1) := by decide +kernel
theorem dX5_leanOn_36 : decode cX5_leanOn 36 = .ok (.ireturn, 1) := by decide +kernel
theorem dX5_marginOf_0 : decode cX5_marginOf 0 = .ok (.aload_n 0, 1) := by decide +kernel
theorem dX5_marginOf_1 : decode cX5_marginOf 1 = .ok (.getfield 42, 3) := by decide +kernel
theorem dX5_marginOf_4 : decode cX5_marginOf 4 = .ok (.getfield 96, 3) := by decide +kernel
theorem dX5_marginOf_7 : decode cX5_marginOf 7 = .ok (.iload_n 2, 1) := by decide +kernel
theorem dX5_marginOf_8 : decode cX5_marginOf 8 = .ok (.iaload, 1) := by decide +kernel
theorem dX5_marginOf_9 : decode cX5_marginOf 9 = .ok (.istore_n 3, 1) := by decide +kernel
theorem dX5_marginOf_10 : decode cX5_marginOf 10 = .ok (.aload_n 0, 1) := by decide +kernel
theorem dX5_marginOf_11 : decode cX5_marginOf 11 = .ok (.getfield 42, 3) := by decide +kernel
theorem dX5_marginOf_14 : decode cX5_marginOf 14 = .ok (.getfield 102, 3) := by decide +kernel
theorem dX5_marginOf_17 : decode cX5_marginOf 17 = .ok (.iload_n 2, 1) := by decide +kernel
theorem dX5_marginOf_18 : decode cX5_marginOf 18 = .ok (.iaload, 1) := by decide +kernel
theorem dX5_marginOf_19 : decode cX5_marginOf 19 = .ok (.istore 4, 2) := by decide +kernel
theorem dX5_marginOf_21 : decode cX5_marginOf 21 = .ok (.aload_n 0, 1) := by decide +kernel
theorem dX5_marginOf_22 : decode cX5_marginOf 22 = .ok (.getfield 42, 3) := by decide +kernel
theorem dX5_marginOf_25 : decode cX5_marginOf 25 = .ok (.getfield 111, 3) := by decide +kernel
theorem dX5_marginOf_28 : decode cX5_marginOf 28 = .ok (.iload_n 2, 1) := by decide +kernel
theorem dX5_marginOf_29 : decode cX5_marginOf 29 = .ok (.iaload, 1) := by decide +kernel
theorem dX5_marginOf_30 : decode cX5_marginOf 30 = .ok (.istore 5, 2) := by decide +kernel
theorem dX5_marginOf_32 : decode cX5_marginOf 32 = .ok (.iload_n 1, 1) := by decide +kernel
theorem dX5_marginOf_33 : decode cX5_marginOf 33 = .ok (.iconst 2, 1) := by decide +kernel
theorem dX5_marginOf_34 : decode cX5_marginOf 34 = .ok (.invokestatic 114, 3) := by decide +kernel
theorem dX5_marginOf_37 : decode cX5_marginOf 37 = .ok (.ifCond .ne 72, 3) := by decide +kernel
theorem dX5_marginOf_40 : decode cX5_marginOf 40 = .ok (.aload_n 0, 1) := by decide +kernel
theorem dX5_marginOf_41 : decode cX5_marginOf 41 = .ok (.iload_n 3, 1) := by decide +kernel
theorem dX5_marginOf_42 : decode cX5_marginOf 42 = .ok (.iload 5, 2) := by decide +kernel
theorem dX5_marginOf_44 : decode cX5_marginOf 44 = .ok (.invokevirtual 99, 3) := by decide +kernel
theorem dX5_marginOf_47 : decode cX5_marginOf 47 = .ok (.aload_n 0, 1) := by decide +kernel
theorem dX5_marginOf_48 : decode cX5_marginOf 48 = .ok (.iload 4, 2) := by decide +kernel
theorem dX5_marginOf_50 : decode cX5_marginOf 50 = .ok (.iload 5, 2) := by decide +kernel
theorem dX5_marginOf_52 : decode cX5_marginOf 52 = .ok (.invokevirtual 99, 3) := by decide +kernel
theorem dX5_marginOf_55 : decode cX5_marginOf 55 = .ok (.isub, 1) := by decide +kernel
theorem dX5_marginOf_56 : decode cX5_marginOf 56 = .ok (.istore 6, 2) := by decide +kernel
theorem dX5_marginOf_58 : decode cX5_marginOf 58 = .ok (.iload_n 1, 1) := by decide +kernel
theorem dX5_marginOf_59 : decode cX5_marginOf 59 = .ok (.iconst 1, 1) := by decide +kernel
theorem dX5_marginOf_60 : decode cX5_marginOf 60 = .ok (.invokestatic 114, 3) := by decide +kernel
theorem dX5_marginOf_63 : decode cX5_marginOf 63 = .ok (.ifCond .eq 30, 3) := by decide +kernel
theorem dX5_marginOf_66 : decode cX5_marginOf 66 = .ok (.iload 6, 2) := by decide +kernel
theorem dX5_marginOf_68 : decode cX5_marginOf 68 = .ok (.iconst 2, 1) := by decide +kernel
theorem dX5_marginOf_69 : decode cX5_marginOf 69 = .ok (.aload_n 0, 1) := by decide +kernel
theorem dX5_marginOf_70 : decode cX5_marginOf 70 = .ok (.getfield 12, 3) := by decide +kernel
theorem dX5_marginOf_73 : decode cX5_marginOf 73 = .ok (.getfield 67, 3) := by decide +kernel
theorem dX5_marginOf_76 : decode cX5_marginOf 76 = .ok (.iload_n 3, 1) := by decide +kernel
theorem dX5_marginOf_77 : decode cX5_marginOf 77 = .ok (.iaload, 1) := by decide +kernel
theorem dX5_marginOf_78 : decode cX5_marginOf 78 = .ok (.aload_n 0, 1) := by decide +kernel
theorem dX5_marginOf_79 : decode cX5_marginOf 79 = .ok (.getfield 12, 3) := by decide +kernel
theorem dX5_marginOf_82 : decode cX5_marginOf 82 = .ok (.getfield 67, 3) := by decide +kernel
theorem dX5_marginOf_85 : decode cX5_marginOf 85 = .ok (.iload 4, 2) := by decide +kernel
theorem dX5_marginOf_87 : decode cX5_marginOf 87 = .ok (.iaload, 1) := by decide +kernel
theorem dX5_marginOf_88 : decode cX5_marginOf 88 = .ok (.isub, 1) := by decide +kernel
theorem dX5_marginOf_89 : decode cX5_marginOf 89 = .ok (.imul, 1) := by decide +kernel
theorem dX5_marginOf_90 : decode cX5_marginOf 90 = .ok (.iadd, 1) := by decide +kernel
theorem dX5_marginOf_91 : decode cX5_marginOf 91 = .ok (.istore 6, 2) := by decide +kernel
theorem dX5_marginOf_93 : decode cX5_marginOf 93 = .ok (.iload_n 1, 1) := by decide +kernel
theorem dX5_marginOf_94 : decode cX5_marginOf 94 = .ok (.iconst 4, 1) := by decide +kernel
theorem dX5_marginOf_95 : decode cX5_marginOf 95 = .ok (.if_icmp .ne 11, 3) := by decide +kernel
theorem dX5_marginOf_98 : decode cX5_marginOf 98 = .ok (.iload 6, 2) := by decide +kernel
theorem dX5_marginOf_100 : decode cX5_marginOf 100 = .ok (.bipush 10, 2) := by decide +kernel
theorem dX5_marginOf_102 : decode cX5_marginOf 102 = .ok (.isub, 1) := by decide +kernel
theorem dX5_marginOf_103 : decode cX5_marginOf 103 = .ok (.goto 5, 3) := by decide +kernel
theorem dX5_marginOf_106 : decode cX5_marginOf 106 = .ok (.iload 6, 2) := by decide +kernel
theorem dX5_marginOf_108 : decode cX5_marginOf 108 = .ok (.ireturn, 1) := by decide +kernel
theorem dX5_marginOf_109 : decode cX5_marginOf 109 = .ok (.aload_n 0, 1) := by decide +kernel
theorem dX5_marginOf_110 : decode cX5_marginOf 110 = .ok (.getfield 42, 3) := by decide +kernel
theorem dX5_marginOf_113 : decode cX5_marginOf 113 = .ok (.getfield 118, 3) := by decide +kernel
theorem dX5_marginOf_116 : decode cX5_marginOf 116 = .ok (.iload_n 2, 1) := by decide +kernel
theorem dX5_marginOf_117 : decode cX5_marginOf 117 = .ok (.iaload, 1) := by decide +kernel
theorem dX5_marginOf_118 : decode cX5_marginOf 118 = .ok (.istore 6, 2) := by decide +kernel
theorem dX5_marginOf_120 : decode cX5_marginOf 120 = .ok (.aload_n 0, 1) := by decide +kernel
theorem dX5_marginOf_121 : decode cX5_marginOf 121 = .ok (.getfield 21, 3) := by decide +kernel
theorem dX5_marginOf_124 : decode cX5_marginOf 124 = .ok (.iload 6, 2) := by decide +kernel
theorem dX5_marginOf_126 : decode cX5_marginOf 126 = .ok (.iload 5, 2) := by decide +kernel
theorem dX5_marginOf_128 : decode cX5_marginOf 128 = .ok (.invokevirtual 121, 3) := by decide +kernel
theorem dX5_marginOf_131 : decode cX5_marginOf 131 = .ok (.istore 7, 2) := by decide +kernel
theorem dX5_marginOf_133 : decode cX5_marginOf 133 = .ok (.aload_n 0, 1) := by decide +kernel
theorem dX5_marginOf_134 : decode cX5_marginOf 134 = .ok (.getfield 21, 3) := by decide +kernel
theorem dX5_marginOf_137 : decode cX5_marginOf 137 = .ok (.iload 6, 2) := by decide +kernel
theorem dX5_marginOf_139 : decode cX5_marginOf 139 = .ok (.aload_n 0, 1) := by decide +kernel
theorem dX5_marginOf_140 : decode cX5_marginOf 140 = .ok (.iload_n 3, 1) := by decide +kernel
theorem dX5_marginOf_141 : decode cX5_marginOf 141 = .ok (.iload 7, 2) := by decide +kernel
theorem dX5_marginOf_143 : decode cX5_marginOf 143 = .ok (.invokevirtual 99, 3) := by decide +kernel
theorem dX5_marginOf_146 : decode cX5_marginOf 146 = .ok (.invokevirtual 124, 3) := by decide +kernel
theorem dX5_marginOf_149 : decode cX5_marginOf 149 = .ok (.aload_n 0, 1) := by decide +kernel
theorem dX5_marginOf_150 : decode cX5_marginOf 150 = .ok (.getfield 21, 3) := by decide +kernel
theorem dX5_marginOf_153 : decode cX5_marginOf 153 = .ok (.iload 6, 2) := by decide +kernel
theorem dX5_marginOf_155 : decode cX5_marginOf 155 = .ok (.aload_n 0, 1) := by decide +kernel
theorem dX5_marginOf_156 : decode cX5_marginOf 156 = .ok (.iload 4, 2) := by decide +kernel
theorem dX5_marginOf_158 : decode cX5_marginOf 158 = .ok (.iload 7, 2) := by decide +kernel
theorem dX5_marginOf_160 : decode cX5_marginOf 160 = .ok (.invokevirtual 99, 3) := by decide +kernel
theorem dX5_marginOf_163 : decode cX5_marginOf 163 = .ok (.invokevirtual 124, 3) := by decide +kernel
theorem dX5_marginOf_166 : decode cX5_marginOf 166 = .ok (.isub, 1) := by decide +kernel
theorem dX5_marginOf_167 : decode cX5_marginOf 167 = .ok (.istore 8, 2) := by decide +kernel
theorem dX5_marginOf_169 : decode cX5_marginOf 169 = .ok (.iload_n 1, 1) := by decide +kernel
theorem dX5_marginOf_170 : decode cX5_marginOf 170 = .ok (.iconst 5, 1) := by decide +kernel
theorem dX5_marginOf_171 : decode cX5_marginOf 171 = .ok (.if_icmp .ne 8, 3) := by decide +kernel
theorem dX5_marginOf_174 : decode cX5_marginOf 174 = .ok (.iload 8, 2) := by decide +kernel
theorem dX5_marginOf_176 : decode cX5_marginOf 176 = .ok (.iconst 2, 1) := by decide +kernel
theorem dX5_marginOf_177 : decode cX5_marginOf 177 = .ok (.isub, 1) := by decide +kernel
theorem dX5_marginOf_178 : decode cX5_marginOf 178 = .ok (.ireturn, 1) := by decide +kernel
theorem dX5_marginOf_179 : decode cX5_marginOf 179 = .ok (.iload 8, 2) := by decide +kernel
theorem dX5_marginOf_181 : decode cX5_marginOf 181 = .ok (.aload_n 0, 1) := by decide +kernel
theorem dX5_marginOf_182 : decode cX5_marginOf 182 = .ok (.iload_n 2, 1) := by decide +kernel
theorem dX5_marginOf_183 : decode cX5_marginOf 183 = .ok (.iload_n 3, 1) := by decide +kernel
theorem dX5_marginOf_184 : decode cX5_marginOf 184 = .ok (.invokevirtual 127, 3) := by decide +kernel
theorem dX5_marginOf_187 : decode cX5_marginOf 187 = .ok (.iadd, 1) := by decide +kernel
theorem dX5_marginOf_188 : decode cX5_marginOf 188 = .ok (.aload_n 0, 1) := by decide +kernel
theorem dX5_marginOf_189 : decode cX5_marginOf 189 = .ok (.iload_n 2, 1) := by decide +kernel
theorem dX5_marginOf_190 : decode cX5_marginOf 190 = .ok (.iload 4, 2) := by decide +kernel
theorem dX5_marginOf_192 : decode cX5_marginOf 192 = .ok (.invokevirtual 127, 3) := by decide +kernel
theorem dX5_marginOf_195 : decode cX5_marginOf 195 = .ok (.isub, 1) := by decide +kernel
theorem dX5_marginOf_196 : decode cX5_marginOf 196 = .ok (.ireturn, 1) := by decide +kernel
theorem dX5_bandOf_0 : decode cX5_bandOf 0 = .ok (.iload_n 1, 1) := by decide +kernel
theorem dX5_bandOf_1 : decode cX5_bandOf 1 = .ok (.tableswitch 73 2 5 #[31, 33, 71, 31], 31) := by decide +kernel
theorem dX5_bandOf_32 : decode cX5_bandOf 32 = .ok (.iconst 1, 1) := by decide +kernel
theorem dX5_bandOf_33 : decode cX5_bandOf 33 = .ok (.ireturn, 1) := by decide +kernel
theorem dX5_bandOf_34 : decode cX5_bandOf 34 = .ok (.aload_n 0, 1) := by decide +kernel
theorem dX5_bandOf_35 : decode cX5_bandOf 35 = .ok (.aload_n 0, 1) := by decide +kernel
theorem dX5_bandOf_36 : decode cX5_bandOf 36 = .ok (.getfield 42, 3) := by decide +kernel
theorem dX5_bandOf_39 : decode cX5_bandOf 39 = .ok (.getfield 96, 3) := by decide +kernel
theorem dX5_bandOf_42 : decode cX5_bandOf 42 = .ok (.iload_n 2, 1) := by decide +kernel
theorem dX5_bandOf_43 : decode cX5_bandOf 43 = .ok (.iaload, 1) := by decide +kernel
theorem dX5_bandOf_44 : decode cX5_bandOf 44 = .ok (.aload_n 0, 1) := by decide +kernel
theorem dX5_bandOf_45 : decode cX5_bandOf 45 = .ok (.getfield 42, 3) := by decide +kernel
theorem dX5_bandOf_48 : decode cX5_bandOf 48 = .ok (.getfield 111, 3) := by decide +kernel
theorem dX5_bandOf_51 : decode cX5_bandOf 51 = .ok (.iload_n 2, 1) := by decide +kernel
theorem dX5_bandOf_52 : decode cX5_bandOf 52 = .ok (.iaload, 1) := by decide +kernel
theorem dX5_bandOf_53 : decode cX5_bandOf 53 = .ok (.iconst 1, 1) := by decide +kernel
theorem dX5_bandOf_54 : decode cX5_bandOf 54 = .ok (.invokevirtual 130, 3) := by decide +kernel
theorem dX5_bandOf_57 : decode cX5_bandOf 57 = .ok (.istore_n 3, 1) := by decide +kernel
theorem dX5_bandOf_58 : decode cX5_bandOf 58 = .ok (.iconst 1, 1) := by decide +kernel
theorem dX5_bandOf_59 : decode cX5_bandOf 59 = .ok (.iconst 0, 1) := by decide +kernel
theorem dX5_bandOf_60 : decode cX5_bandOf 60 = .ok (.sipush 999, 3) := by decide +kernel
theorem dX5_bandOf_63 : decode cX5_bandOf 63 = .ok (.iload_n 3, 1) := by decide +kernel
theorem dX5_bandOf_64 : decode cX5_bandOf 64 = .ok (.invokestatic 133, 3) := by decide +kernel
theorem dX5_bandOf_67 : decode cX5_bandOf 67 = .ok (.invokestatic 138, 3) := by decide +kernel
theorem dX5_bandOf_70 : decode cX5_bandOf 70 = .ok (.iadd, 1) := by decide +kernel
theorem dX5_bandOf_71 : decode cX5_bandOf 71 = .ok (.ireturn, 1) := by decide +kernel
theorem dX5_bandOf_72 : decode cX5_bandOf 72 = .ok (.iconst 3, 1) := by decide +kernel
theorem dX5_bandOf_73 : decode cX5_bandOf 73 = .ok (.ireturn, 1) := by decide +kernel
theorem dX5_bandOf_74 : decode cX5_bandOf 74 = .ok (.iconst 0, 1) := by decide +kernel
theorem dX5_bandOf_75 : decode cX5_bandOf 75 = .ok (.ireturn, 1) := by decide +kernel
theorem dX5_isOffside_0 : decode cX5_isOffside 0 = .ok (.aload_n 0, 1) := by decide +kernel
theorem dX5_isOffside_1 : decode cX5_isOffside 1 = .ok (.iload_n 1, 1) := by decide +kernel
theorem dX5_isOffside_2 : decode cX5_isOffside 2 = .ok (.iload_n 2, 1) := by decide +kernel
theorem dX5_isOffside_3 : decode cX5_isOffside 3 = .ok (.invokevirtual 141, 3) := by decide +kernel
theorem dX5_isOffside_6 : decode cX5_isOffside 6 = .ok (.aload_n 0, 1) := by decide +kernel
theorem dX5_isOffside_7 : decode cX5_isOffside 7 = .ok (.iload_n 1, 1) := by decide +kernel
theorem dX5_isOffside_8 : decode cX5_isOffside 8 = .ok (.iload_n 2, 1) := by decide +kernel
theorem dX5_isOffside_9 : decode cX5_isOffside 9 = .ok (.invokevirtual 144, 3) := by decide +kernel
theorem dX5_isOffside_12 : decode cX5_isOffside 12 = .ok (.if_icmp .le 7, 3) := by decide +kernel
theorem dX5_isOffside_15 : decode cX5_isOffside 15 = .ok (.iconst 1, 1) := by decide +kernel
theorem dX5_isOffside_16 : decode cX5_isOffside 16 = .ok (.goto 4, 3) := by decide +kernel
theorem dX5_isOffside_19 : decode cX5_isOffside 19 = .ok (.iconst 0, 1) := by decide +kernel
theorem dX5_isOffside_20 : decode cX5_isOffside 20 = .ok (.istore_n 3, 1) := by decide +kernel
theorem dX5_isOffside_21 : decode cX5_isOffside 21 = .ok (.iload_n 3, 1) := by decide +kernel
theorem dX5_isOffside_22 : decode cX5_isOffside 22 = .ok (.ifCond .eq 33, 3) := by decide +kernel
theorem dX5_isOffside_25 : decode cX5_isOffside 25 = .ok (.aload_n 0, 1) := by decide +kernel
theorem dX5_isOffside_26 : decode cX5_isOffside 26 = .ok (.aload_n 0, 1) := by decide +kernel
theorem dX5_isOffside_27 : decode cX5_isOffside 27 = .ok (.getfield 42, 3) := by decide +kernel
theorem dX5_isOffside_30 : decode cX5_isOffside 30 = .ok (.getfield 96, 3) := by decide +kernel
theorem dX5_isOffside_33 : decode cX5_isOffside 33 = .ok (.iload_n 2, 1) := by decide +kernel
theorem dX5_isOffside_34 : decode cX5_isOffside 34 = .ok (.iaload, 1) := by decide +kernel
theorem dX5_isOffside_35 : decode cX5_isOffside 35 = .ok (.aload_n 0, 1) := by decide +kernel
theorem dX5_isOffside_36 : decode cX5_isOffside 36 = .ok (.getfield 42, 3) := by decide +kernel
theorem dX5_isOffside_39 : decode cX5_isOffside 39 = .ok (.getfield 111, 3) := by decide +kernel
theorem dX5_isOffside_42 : decode cX5_isOffside 42 = .ok (.iload_n 2, 1) := by decide +kernel
theorem dX5_isOffside_43 : decode cX5_isOffside 43 = .ok (.iaload, 1) := by decide +kernel
theorem dX5_isOffside_44 : decode cX5_isOffside 44 = .ok (.iconst 2, 1) := by decide +kernel
theorem dX5_isOffside_45 : decode cX5_isOffside 45 = .ok (.invokevirtual 130, 3) := by decide +kernel
theorem dX5_isOffside_48 : decode cX5_isOffside 48 = .ok (.ifCond .eq 7, 3) := by decide +kernel
theorem dX5_isOffside_51 : decode cX5_isOffside 51 = .ok (.iconst 1, 1) := by decide +kernel
theorem dX5_isOffside_52 : decode cX5_isOffside 52 = .ok (.goto 4, 3) := by decide +kernel
theorem dX5_isOffside_55 : decode cX5_isOffside 55 = .ok (.iconst 0, 1) := by decide +kernel
theorem dX5_isOffside_56 : decode cX5_isOffside 56 = .ok (.ireturn, 1) := by decide +kernel
theorem dX5_offsideAmong_0 : decode cX5_offsideAmong 0 = .ok (.iconst 0, 1) := by decide +kernel
theorem dX5_offsideAmong_1 : decode cX5_offsideAmong 1 = .ok (.istore_n 2, 1) := by decide +kernel
theorem dX5_offsideAmong_2 : decode cX5_offsideAmong 2 = .ok (.iconst 0, 1) := by decide +kernel
theorem dX5_offsideAmong_3 : decode cX5_offsideAmong 3 = .ok (.istore_n 3, 1) := by decide +kernel
theorem dX5_offsideAmong_4 : decode cX5_offsideAmong 4 = .ok (.iload_n 3, 1) := by decide +kernel
theorem dX5_offsideAmong_5 : decode cX5_offsideAmong 5 = .ok (.aload_n 0, 1) := by decide +kernel
theorem dX5_offsideAmong_6 : decode cX5_offsideAmong 6 = .ok (.getfield 42, 3) := by decide +kernel
theorem dX5_offsideAmong_9 : decode cX5_offsideAmong 9 = .ok (.getfield 147, 3) := by decide +kernel
theorem dX5_offsideAmong_12 : decode cX5_offsideAmong 12 = .ok (.if_icmp .ge 41, 3) := by decide +kernel
theorem dX5_offsideAmong_15 : decode cX5_offsideAmong 15 = .ok (.iload_n 1, 1) := by decide +kernel
theorem dX5_offsideAmong_16 : decode cX5_offsideAmong 16 = .ok (.iload_n 3, 1) := by decide +kernel
theorem dX5_offsideAmong_17 : decode cX5_offsideAmong 17 = .ok (.ishr, 1) := by decide +kernel
theorem dX5_offsideAmong_18 : decode cX5_offsideAmong 18 = .ok (.iconst 1, 1) := by decide +kernel
theorem dX5_offsideAmong_19 : decode cX5_offsideAmong 19 = .ok (.iand, 1) := by decide +kernel
theorem dX5_offsideAmong_20 : decode cX5_offsideAmong 20 = .ok (.iconst 1, 1) := by decide +kernel
theorem dX5_offsideAmong_21 : decode cX5_offsideAmong 21 = .ok (.if_icmp .ne 26, 3) := by decide +kernel
theorem dX5_offsideAmong_24 : decode cX5_offsideAmong 24 = .ok (.aload_n 0, 1) := by decide +kernel
theorem dX5_offsideAmong_25 : decode cX5_offsideAmong 25 = .ok (.aload_n 0, 1) := by decide +kernel
theorem dX5_offsideAmong_26 : decode cX5_offsideAmong 26 = .ok (.getfield 42, 3) := by decide +kernel
theorem dX5_offsideAmong_29 : decode cX5_offsideAmong 29 = .ok (.getfield 150, 3) := by decide +kernel
theorem dX5_offsideAmong_32 : decode cX5_offsideAmong 32 = .ok (.iload_n 3, 1) := by decide +kernel
theorem dX5_offsideAmong_33 : decode cX5_offsideAmong 33 = .ok (.iaload, 1) := by decide +kernel
theorem dX5_offsideAmong_34 : decode cX5_offsideAmong 34 = .ok (.iload_n 3, 1) := by decide +kernel
theorem dX5_offsideAmong_35 : decode cX5_offsideAmong 35 = .ok (.invokevirtual 153, 3) := by decide +kernel
theorem dX5_offsideAmong_38 : decode cX5_offsideAmong 38 = .ok (.ifCond .eq 9, 3) := by decide +kernel
theorem dX5_offsideAmong_41 : decode cX5_offsideAmong 41 = .ok (.iload_n 2, 1) := by decide +kernel
theorem dX5_offsideAmong_42 : decode cX5_offsideAmong 42 = .ok (.iconst 1, 1) := by decide +kernel
theorem dX5_offsideAmong_43 : decode cX5_offsideAmong 43 = .ok (.iload_n 3, 1) := by decide +kernel
theorem dX5_offsideAmong_44 : decode cX5_offsideAmong 44 = .ok (.ishl, 1) := by decide +kernel
theorem dX5_offsideAmong_45 : decode cX5_offsideAmong 45 = .ok (.ior, 1) := by decide +kernel
theorem dX5_offsideAmong_46 : decode cX5_offsideAmong 46 = .ok (.istore_n 2, 1) := by decide +kernel
theorem dX5_offsideAmong_47 : decode cX5_offsideAmong 47 = .ok (.iinc 3 1, 3) := by decide +kernel
theorem dX5_offsideAmong_50 : decode cX5_offsideAmong 50 = .ok (.goto (-46), 3) := by decide +kernel
theorem dX5_offsideAmong_53 : decode cX5_offsideAmong 53 = .ok (.iload_n 2, 1) := by decide +kernel
theorem dX5_offsideAmong_54 : decode cX5_offsideAmong 54 = .ok (.ireturn, 1) := by decide +kernel
theorem dX5_weigh_0 : decode cX5_weigh 0 = .ok (.aload_n 0, 1) := by decide +kernel
theorem dX5_weigh_1 : decode cX5_weigh 1 = .ok (.iconst 0, 1) := by decide +kernel
theorem dX5_weigh_2 : decode cX5_weigh 2 = .ok (.putfield 156, 3) := by decide +kernel
theorem dX5_weigh_5 : decode cX5_weigh 5 = .ok (.aload_n 0, 1) := by decide +kernel
theorem dX5_weigh_6 : decode cX5_weigh 6 = .ok (.iconst 0, 1) := by decide +kernel
theorem dX5_weigh_7 : decode cX5_weigh 7 = .ok (.putfield 159, 3) := by decide +kernel
theorem dX5_weigh_10 : decode cX5_weigh 10 = .ok (.iconst 0, 1) := by decide +kernel
theorem dX5_weigh_11 : decode cX5_weigh 11 = .ok (.istore_n 2, 1) := by decide +kernel
theorem dX5_weigh_12 : decode cX5_weigh 12 = .ok (.iload_n 2, 1) := by decide +kernel
theorem dX5_weigh_13 : decode cX5_weigh 13 = .ok (.aload_n 0, 1) := by decide +kernel
theorem dX5_weigh_14 : decode cX5_weigh 14 = .ok (.getfield 42, 3) := by decide +kernel
theorem dX5_weigh_17 : decode cX5_weigh 17 = .ok (.getfield 147, 3) := by decide +kernel
theorem dX5_weigh_20 : decode cX5_weigh 20 = .ok (.if_icmp .ge 87, 3) := by decide +kernel
theorem dX5_weigh_23 : decode cX5_weigh 23 = .ok (.iload_n 1, 1) := by decide +kernel
theorem dX5_weigh_24 : decode cX5_weigh 24 = .ok (.iload_n 2, 1) := by decide +kernel
theorem dX5_weigh_25 : decode cX5_weigh 25 = .ok (.ishr, 1) := by decide +kernel
theorem dX5_weigh_26 : decode cX5_weigh 26 = .ok (.iconst 1, 1) := by decide +kernel
theorem dX5_weigh_27 : decode cX5_weigh 27 = .ok (.iand, 1) := by decide +kernel
theorem dX5_weigh_28 : decode cX5_weigh 28 = .ok (.iconst 1, 1) := by decide +kernel
theorem dX5_weigh_29 : decode cX5_weigh 29 = .ok (.if_icmp .ne 72, 3) := by decide +kernel
theorem dX5_weigh_32 : decode cX5_weigh 32 = .ok (.aload_n 0, 1) := by decide +kernel
theorem dX5_weigh_33 : decode cX5_weigh 33 = .ok (.aload_n 0, 1) := by decide +kernel
theorem dX5_weigh_34 : decode cX5_weigh 34 = .ok (.getfield 42, 3) := by decide +kernel
theorem dX5_weigh_37 : decode cX5_weigh 37 = .ok (.getfield 150, 3) := by decide +kernel
theorem dX5_weigh_40 : decode cX5_weigh 40 = .ok (.iload_n 2, 1) := by decide +kernel
theorem dX5_weigh_41 : decode cX5_weigh 41 = .ok (.iaload, 1) := by decide +kernel
theorem dX5_weigh_42 : decode cX5_weigh 42 = .ok (.iload_n 2, 1) := by decide +kernel
theorem dX5_weigh_43 : decode cX5_weigh 43 = .ok (.invokevirtual 153, 3) := by decide +kernel
theorem dX5_weigh_46 : decode cX5_weigh 46 = .ok (.istore_n 3, 1) := by decide +kernel
theorem dX5_weigh_47 : decode cX5_weigh 47 = .ok (.aload_n 0, 1) := by decide +kernel
theorem dX5_weigh_48 : decode cX5_weigh 48 = .ok (.iconst 0, 1) := by decide +kernel
theorem dX5_weigh_49 : decode cX5_weigh 49 = .ok (.iload_n 2, 1) := by decide +kernel
theorem dX5_weigh_50 : decode cX5_weigh 50 = .ok (.invokevirtual 153, 3) := by decide +kernel
theorem dX5_weigh_53 : decode cX5_weigh 53 = .ok (.istore 4, 2) := by decide +kernel
theorem dX5_weigh_55 : decode cX5_weigh 55 = .ok (.aload_n 0, 1) := by decide +kernel
theorem dX5_weigh_56 : decode cX5_weigh 56 = .ok (.dup, 1) := by decide +kernel
theorem dX5_weigh_57 : decode cX5_weigh 57 = .ok (.getfield 156, 3) := by decide +kernel
theorem dX5_weigh_60 : decode cX5_weigh 60 = .ok (.iload 4, 2) := by decide +kernel
theorem dX5_weigh_62 : decode cX5_weigh 62 = .ok (.ifCond .eq 11, 3) := by decide +kernel
theorem dX5_weigh_65 : decode cX5_weigh 65 = .ok (.iload_n 3, 1) := by decide +kernel
theorem dX5_weigh_66 : decode cX5_weigh 66 = .ok (.ifCond .ne 7, 3) := by decide +kernel
theorem dX5_weigh_69 : decode cX5_weigh 69 = .ok (.iconst 1, 1) := by decide +kernel
theorem dX5_weigh_70 : decode cX5_weigh 70 = .ok (.goto 4, 3) := by decide +kernel
theorem dX5_weigh_73 : decode cX5_weigh 73 = .ok (.iconst 0, 1) := by decide +kernel
theorem dX5_weigh_74 : decode cX5_weigh 74 = .ok (.iadd, 1) := by decide +kernel
theorem dX5_weigh_75 : decode cX5_weigh 75 = .ok (.putfield 156, 3) := by decide +kernel
theorem dX5_weigh_78 : decode cX5_weigh 78 = .ok (.aload_n 0, 1) := by decide +kernel
theorem dX5_weigh_79 : decode cX5_weigh 79 = .ok (.dup, 1) := by decide +kernel
theorem dX5_weigh_80 : decode cX5_weigh 80 = .ok (.getfield 159, 3) := by decide +kernel
theorem dX5_weigh_83 : decode cX5_weigh 83 = .ok (.iload_n 3, 1) := by decide +kernel
theorem dX5_weigh_84 : decode cX5_weigh 84 = .ok (.ifCond .eq 12, 3) := by decide +kernel
theorem dX5_weigh_87 : decode cX5_weigh 87 = .ok (.iload 4, 2) := by decide +kernel
theorem dX5_weigh_89 : decode cX5_weigh 89 = .ok (.ifCond .ne 7, 3) := by decide +kernel
theorem dX5_weigh_92 : decode cX5_weigh 92 = .ok (.iconst 1, 1) := by decide +kernel
theorem dX5_weigh_93 : decode cX5_weigh 93 = .ok (.goto 4, 3) := by decide +kernel
theorem dX5_weigh_96 : decode cX5_weigh 96 = .ok (.iconst 0, 1) := by decide +kernel
theorem dX5_weigh_97 : decode cX5_weigh 97 = .ok (.iadd, 1) := by decide +kernel
theorem dX5_weigh_98 : decode cX5_weigh 98 = .ok (.putfield 159, 3) := by decide +kernel
theorem dX5_weigh_101 : decode cX5_weigh 101 = .ok (.iinc 2 1, 3) := by decide +kernel
theorem dX5_weigh_104 : decode cX5_weigh 104 = .ok (.goto (-92), 3) := by decide +kernel
theorem dX5_weigh_107 : decode cX5_weigh 107 = .ok (.return_, 1) := by decide +kernel
theorem dX5_spreadOf_0 : decode cX5_spreadOf 0 = .ok (.aload_n 0, 1) := by decide +kernel
theorem dX5_spreadOf_1 : decode cX5_spreadOf 1 = .ok (.getfield 42, 3) := by decide +kernel
theorem dX5_spreadOf_4 : decode cX5_spreadOf 4 = .ok (.getfield 150, 3) := by decide +kernel
theorem dX5_spreadOf_7 : decode cX5_spreadOf 7 = .ok (.iload_n 1, 1) := by decide +kernel
theorem dX5_spreadOf_8 : decode cX5_spreadOf 8 = .ok (.iaload, 1) := by decide +kernel
theorem dX5_spreadOf_9 : decode cX5_spreadOf 9 = .ok (.istore_n 2, 1) := by decide +kernel
theorem dX5_spreadOf_10 : decode cX5_spreadOf 10 = .ok (.iload_n 2, 1) := by decide +kernel
theorem dX5_spreadOf_11 : decode cX5_spreadOf 11 = .ok (.iconst 2, 1) := by decide +kernel
theorem dX5_spreadOf_12 : decode cX5_spreadOf 12 = .ok (.invokestatic 114, 3) := by decide +kernel
theorem dX5_spreadOf_15 : decode cX5_spreadOf 15 = .ok (.ifCond .eq 28, 3) := by decide +kernel
theorem dX5_spreadOf_18 : decode cX5_spreadOf 18 = .ok (.iload_n 2, 1) := by decide +kernel
theorem dX5_spreadOf_19 : decode cX5_spreadOf 19 = .ok (.iconst 5, 1) := by decide +kernel
theorem dX5_spreadOf_20 : decode cX5_spreadOf 20 = .ok (.if_icmp .eq 23, 3) := by decide +kernel
theorem dX5_spreadOf_23 : decode cX5_spreadOf 23 = .ok (.aload_n 0, 1) := by decide +kernel
theorem dX5_spreadOf_24 : decode cX5_spreadOf 24 = .ok (.getfield 28, 3) := by decide +kernel
theorem dX5_spreadOf_27 : decode cX5_spreadOf 27 = .ok (.getfield 162, 3) := by decide +kernel
theorem dX5_spreadOf_30 : decode cX5_spreadOf 30 = .ok (.aload_n 0, 1) := by decide +kernel
theorem dX5_spreadOf_31 : decode cX5_spreadOf 31 = .ok (.getfield 42, 3) := by decide +kernel
theorem dX5_spreadOf_34 : decode cX5_spreadOf 34 = .ok (.getfield 108, 3) := by decide +kernel
theorem dX5_spreadOf_37 : decode cX5_spreadOf 37 = .ok (.iload_n 1, 1) := by decide +kernel
theorem dX5_spreadOf_38 : decode cX5_spreadOf 38 = .ok (.iaload, 1) := by decide +kernel
theorem dX5_spreadOf_39 : decode cX5_spreadOf 39 = .ok (.iaload, 1) := by decide +kernel
theorem dX5_spreadOf_40 : decode cX5_spreadOf 40 = .ok (.goto 4, 3) := by decide +kernel
theorem dX5_spreadOf_43 : decode cX5_spreadOf 43 = .ok (.iconst 0, 1) := by decide +kernel
theorem dX5_spreadOf_44 : decode cX5_spreadOf 44 = .ok (.ireturn, 1) := by decide +kernel
theorem dX5_pairsOf_0 : decode cX5_pairsOf 0 = .ok (.iconst 2, 1) := by decide +kernel
theorem dX5_pairsOf_1 : decode cX5_pairsOf 1 = .ok (.aload_n 0, 1) := by decide +kernel
theorem dX5_pairsOf_2 : decode cX5_pairsOf 2 = .ok (.iload_n 1, 1) := by decide +kernel
theorem dX5_pairsOf_3 : decode cX5_pairsOf 3 = .ok (.invokevirtual 165, 3) := by decide +kernel
theorem dX5_pairsOf_6 : decode cX5_pairsOf 6 = .ok (.imul, 1) := by decide +kernel
theorem dX5_pairsOf_7 : decode cX5_pairsOf 7 = .ok (.iconst 1, 1) := by decide +kernel
theorem dX5_pairsOf_8 : decode cX5_pairsOf 8 = .ok (.iadd, 1) := by decide +kernel
theorem dX5_pairsOf_9 : decode cX5_pairsOf 9 = .ok (.istore_n 2, 1) := by decide +kernel
theorem dX5_pairsOf_10 : decode cX5_pairsOf 10 = .ok (.iload_n 2, 1) := by decide +kernel
theorem dX5_pairsOf_11 : decode cX5_pairsOf 11 = .ok (.iload_n 2, 1) := by decide +kernel
theorem dX5_pairsOf_12 : decode cX5_pairsOf 12 = .ok (.imul, 1) := by decide +kernel
theorem dX5_pairsOf_13 : decode cX5_pairsOf 13 = .ok (.ireturn, 1) := by decide +kernel
theorem dX5_waysOf_0 : decode cX5_waysOf 0 = .ok (.aload_n 0, 1) := by decide +kernel
theorem dX5_waysOf_1 : decode cX5_waysOf 1 = .ok (.getfield 42, 3) := by decide +kernel
theorem dX5_waysOf_4 : decode cX5_waysOf 4 = .ok (.getfield 150, 3) := by decide +kernel
theorem dX5_waysOf_7 : decode cX5_waysOf 7 = .ok (.iload_n 1, 1) := by decide +kernel
theorem dX5_waysOf_8 : decode cX5_waysOf 8 = .ok (.iaload, 1) := by decide +kernel
theorem dX5_waysOf_9 : decode cX5_waysOf 9 = .ok (.istore_n 2, 1) := by decide +kernel
theorem dX5_waysOf_10 : decode cX5_waysOf 10 = .ok (.aload_n 0, 1) := by decide +kernel
theorem dX5_waysOf_11 : decode cX5_waysOf 11 = .ok (.iload_n 2, 1) := by decide +kernel
theorem dX5_waysOf_12 : decode cX5_waysOf 12 = .ok (.iload_n 1, 1) := by decide +kernel
theorem dX5_waysOf_13 : decode cX5_waysOf 13 = .ok (.invokevirtual 141, 3) := by decide +kernel
theorem dX5_waysOf_16 : decode cX5_waysOf 16 = .ok (.aload_n 0, 1) := by decide +kernel
theorem dX5_waysOf_17 : decode cX5_waysOf 17 = .ok (.iload_n 2, 1) := by decide +kernel
theorem dX5_waysOf_18 : decode cX5_waysOf 18 = .ok (.iload_n 1, 1) := by decide +kernel
theorem dX5_waysOf_19 : decode cX5_waysOf 19 = .ok (.invokevirtual 144, 3) := by decide +kernel
theorem dX5_waysOf_22 : decode cX5_waysOf 22 = .ok (.isub, 1) := by decide +kernel
theorem dX5_waysOf_23 : decode cX5_waysOf 23 = .ok (.istore_n 3, 1) := by decide +kernel
theorem dX5_waysOf_24 : decode cX5_waysOf 24 = .ok (.aload_n 0, 1) := by decide +kernel
theorem dX5_waysOf_25 : decode cX5_waysOf 25 = .ok (.iload_n 1, 1) := by decide +kernel
theorem dX5_waysOf_26 : decode cX5_waysOf 26 = .ok (.invokevirtual 165, 3) := by decide +kernel
theorem dX5_waysOf_29 : decode cX5_waysOf 29 = .ok (.istore 4, 2) := by decide +kernel
theorem dX5_waysOf_31 : decode cX5_waysOf 31 = .ok (.iconst 0, 1) := by decide +kernel
theorem dX5_waysOf_32 : decode cX5_waysOf 32 = .ok (.istore 5, 2) := by decide +kernel
theorem dX5_waysOf_34 : decode cX5_waysOf 34 = .ok (.iload 4, 2) := by decide +kernel
theorem dX5_waysOf_36 : decode cX5_waysOf 36 = .ok (.ineg, 1) := by decide +kernel
theorem dX5_waysOf_37 : decode cX5_waysOf 37 = .ok (.istore 6, 2) := by decide +kernel
theorem dX5_waysOf_39 : decode cX5_waysOf 39 = .ok (.iload 6, 2) := by decide +kernel
theorem dX5_waysOf_41 : decode cX5_waysOf 41 = .ok (.iload 4, 2) := by decide +kernel
theorem dX5_waysOf_43 : decode cX5_waysOf 43 = .ok (.if_icmp .gt 47, 3) := by decide +kernel
theorem dX5_waysOf_46 : decode cX5_waysOf 46 = .ok (.iload 4, 2) := by decide +kernel
theorem dX5_waysOf_48 : decode cX5_waysOf 48 = .ok (.ineg, 1) := by decide +kernel
theorem dX5_waysOf_49 : decode cX5_waysOf 49 = .ok (.istore 7, 2) := by decide +kernel
theorem dX5_waysOf_51 : decode cX5_waysOf 51 = .ok (.iload 7, 2) := by decide +kernel
theorem dX5_waysOf_53 : decode cX5_waysOf 53 = .ok (.iload 4, 2) := by decide +kernel
theorem dX5_waysOf_55 : decode cX5_waysOf 55 = .ok (.if_icmp .gt 29, 3) := by decide +kernel
theorem dX5_waysOf_58 : decode cX5_waysOf 58 = .ok (.iload 5, 2) := by decide +kernel
theorem dX5_waysOf_60 : decode cX5_waysOf 60 = .ok (.iload_n 3, 1) := by decide +kernel
theorem dX5_waysOf_61 : decode cX5_waysOf 61 = .ok (.iload 6, 2) := by decide +kernel
theorem dX5_waysOf_63 : decode cX5_waysOf 63 = .ok (.iadd, 1) := by decide +kernel
theorem dX5_waysOf_64 : decode cX5_waysOf 64 = .ok (.iload 7, 2) := by decide +kernel
theorem dX5_waysOf_66 : decode cX5_waysOf 66 = .ok (.isub, 1) := by decide +kernel
theorem dX5_waysOf_67 : decode cX5_waysOf 67 = .ok (.ifCond .le 7, 3) := by decide +kernel
theorem dX5_waysOf_70 : decode cX5_waysOf 70 = .ok (.iconst 1, 1) := by decide +kernel
theorem dX5_waysOf_71 : decode cX5_waysOf 71 = .ok (.goto 4, 3) := by decide +kernel
theorem dX5_waysOf_74 : decode cX5_waysOf 74 = .ok (.iconst 0, 1) := by decide +kernel
theorem dX5_waysOf_75 : decode cX5_waysOf 75 = .ok (.iadd, 1) := by decide +kernel
theorem dX5_waysOf_76 : decode cX5_waysOf 76 = .ok (.istore 5, 2) := by decide +kernel
theorem dX5_waysOf_78 : decode cX5_waysOf 78 = .ok (.iinc 7 1, 3) := by decide +kernel
theorem dX5_waysOf_81 : decode cX5_waysOf 81 = .ok (.goto (-30), 3) := by decide +kernel
theorem dX5_waysOf_84 : decode cX5_waysOf 84 = .ok (.iinc 6 1, 3) := by decide +kernel
theorem dX5_waysOf_87 : decode cX5_waysOf 87 = .ok (.goto (-48), 3) := by decide +kernel
theorem dX5_waysOf_90 : decode cX5_waysOf 90 = .ok (.iload 5, 2) := by decide +kernel
theorem dX5_waysOf_92 : decode cX5_waysOf 92 = .ok (.ireturn, 1) := by decide +kernel
theorem dX5_frameErrorOf_0 : decode cX5_frameErrorOf 0 = .ok (.aload_n 0, 1) := by decide +kernel
theorem dX5_frameErrorOf_1 : decode cX5_frameErrorOf 1 = .ok (.getfield 42, 3) := by decide +kernel
theorem dX5_frameErrorOf_4 : decode cX5_frameErrorOf 4 = .ok (.getfield 111, 3) := by decide +kernel
theorem dX5_frameErrorOf_7 : decode cX5_frameErrorOf 7 = .ok (.iload_n 1, 1) := by decide +kernel
theorem dX5_frameErrorOf_8 : decode cX5_frameErrorOf 8 = .ok (.iaload, 1) := by decide +kernel
theorem dX5_frameErrorOf_9 : decode cX5_frameErrorOf 9 = .ok (.istore_n 2, 1) := by decide +kernel
theorem dX5_frameErrorOf_10 : decode cX5_frameErrorOf 10 = .ok (.aload_n 0, 1) := by decide +kernel
theorem dX5_frameErrorOf_11 : decode cX5_frameErrorOf 11 = .ok (.getfield 21, 3) := by decide +kernel
theorem dX5_frameErrorOf_14 : decode cX5_frameErrorOf 14 = .ok (.aload_n 0, 1) := by decide +kernel
theorem dX5_frameErrorOf_15 : decode cX5_frameErrorOf 15 = .ok (.getfield 42, 3) := by decide +kernel
theorem dX5_frameErrorOf_18 : decode cX5_frameErrorOf 18 = .ok (.getfield 118, 3) := by decide +kernel
theorem dX5_frameErrorOf_21 : decode cX5_frameErrorOf 21 = .ok (.iload_n 1, 1) := by decide +kernel
theorem dX5_frameErrorOf_22 : decode cX5_frameErrorOf 22 = .ok (.iaload, 1) := by decide +kernel
theorem dX5_frameErrorOf_23 : decode cX5_frameErrorOf 23 = .ok (.iload_n 2, 1) := by decide +kernel
theorem dX5_frameErrorOf_24 : decode cX5_frameErrorOf 24 = .ok (.invokevirtual 121, 3) := by decide +kernel
theorem dX5_frameErrorOf_27 : decode cX5_frameErrorOf 27 = .ok (.istore_n 3, 1) := by decide +kernel
theorem dX5_frameErrorOf_28 : decode cX5_frameErrorOf 28 = .ok (.aload_n 0, 1) := by decide +kernel
theorem dX5_frameErrorOf_29 : decode cX5_frameErrorOf 29 = .ok (.iload_n 1, 1) := by decide +kernel
theorem dX5_frameErrorOf_30 : decode cX5_frameErrorOf 30 = .ok (.iload_n 3, 1) := by decide +kernel
theorem dX5_frameErrorOf_31 : decode cX5_frameErrorOf 31 = .ok (.invokevirtual 168, 3) := by decide +kernel
theorem dX5_frameErrorOf_34 : decode cX5_frameErrorOf 34 = .ok (.aload_n 0, 1) := by decide +kernel
theorem dX5_frameErrorOf_35 : decode cX5_frameErrorOf 35 = .ok (.iload_n 1, 1) := by decide +kernel
theorem dX5_frameErrorOf_36 : decode cX5_frameErrorOf 36 = .ok (.iload_n 2, 1) := by decide +kernel
theorem dX5_frameErrorOf_37 : decode cX5_frameErrorOf 37 = .ok (.invokevirtual 168, 3) := by decide +kernel
theorem dX5_frameErrorOf_40 : decode cX5_frameErrorOf 40 = .ok (.isub, 1) := by decide +kernel
theorem dX5_frameErrorOf_41 : decode cX5_frameErrorOf 41 = .ok (.ireturn, 1) := by decide +kernel
theorem dX5_turnOf_0 : decode cX5_turnOf 0 = .ok (.aload_n 0, 1) := by decide +kernel
theorem dX5_turnOf_1 : decode cX5_turnOf 1 = .ok (.getfield 42, 3) := by decide +kernel
theorem dX5_turnOf_4 : decode cX5_turnOf 4 = .ok (.getfield 150, 3) := by decide +kernel
theorem dX5_turnOf_7 : decode cX5_turnOf 7 = .ok (.iload_n 1, 1) := by decide +kernel
theorem dX5_turnOf_8 : decode cX5_turnOf 8 = .ok (.iaload, 1) := by decide +kernel
theorem dX5_turnOf_9 : decode cX5_turnOf 9 = .ok (.istore_n 2, 1) := by decide +kernel
theorem dX5_turnOf_10 : decode cX5_turnOf 10 = .ok (.aload_n 0, 1) := by decide +kernel
theorem dX5_turnOf_11 : decode cX5_turnOf 11 = .ok (.getfield 35, 3) := by decide +kernel
theorem dX5_turnOf_14 : decode cX5_turnOf 14 = .ok (.iconst 0, 1) := by decide +kernel
theorem dX5_turnOf_15 : decode cX5_turnOf 15 = .ok (.invokevirtual 171, 3) := by decide +kernel
theorem dX5_turnOf_18 : decode cX5_turnOf 18 = .ok (.istore_n 3, 1) := by decide +kernel
theorem dX5_turnOf_19 : decode cX5_turnOf 19 = .ok (.iload_n 2, 1) := by decide +kernel
theorem dX5_turnOf_20 : decode cX5_turnOf 20 = .ok (.iconst 3, 1) := by decide +kernel
theorem dX5_turnOf_21 : decode cX5_turnOf 21 = .ok (.if_icmp .ne 18, 3) := by decide +kernel
theorem dX5_turnOf_24 : decode cX5_turnOf 24 = .ok (.aload_n 0, 1) := by decide +kernel
theorem dX5_turnOf_25 : decode cX5_turnOf 25 = .ok (.getfield 35, 3) := by decide +kernel
theorem dX5_turnOf_28 : decode cX5_turnOf 28 = .ok (.iconst 1, 1) := by decide +kernel
theorem dX5_turnOf_29 : decode cX5_turnOf 29 = .ok (.invokevirtual 171, 3) := by decide +kernel
theorem dX5_turnOf_32 : decode cX5_turnOf 32 = .ok (.ifCond .eq 7, 3) := by decide +kernel
theorem dX5_turnOf_35 : decode cX5_turnOf 35 = .ok (.iconst 1, 1) := by decide +kernel
theorem dX5_turnOf_36 : decode cX5_turnOf 36 = .ok (.goto 4, 3) := by decide +kernel
theorem dX5_turnOf_39 : decode cX5_turnOf 39 = .ok (.iconst 0, 1) := by decide +kernel
theorem dX5_turnOf_40 : decode cX5_turnOf 40 = .ok (.istore 4, 2) := by decide +kernel
theorem dX5_turnOf_42 : decode cX5_turnOf 42 = .ok (.iload_n 3, 1) := by decide +kernel
theorem dX5_turnOf_43 : decode cX5_turnOf 43 = .ok (.ifCond .ne 8, 3) := by decide +kernel
theorem dX5_turnOf_46 : decode cX5_turnOf 46 = .ok (.iload 4, 2) := by decide +kernel
theorem dX5_turnOf_48 : decode cX5_turnOf 48 = .ok (.ifCond .eq 9, 3) := by decide +kernel
theorem dX5_turnOf_51 : decode cX5_turnOf 51 = .ok (.sipush 999, 3) := by decide +kernel
theorem dX5_turnOf_54 : decode cX5_turnOf 54 = .ok (.goto 4, 3) := by decide +kernel
theorem dX5_turnOf_57 : decode cX5_turnOf 57 = .ok (.iconst 0, 1) := by decide +kernel
theorem dX5_turnOf_58 : decode cX5_turnOf 58 = .ok (.istore 5, 2) := by decide +kernel
theorem dX5_turnOf_60 : decode cX5_turnOf 60 = .ok (.iconst 0, 1) := by decide +kernel
theorem dX5_turnOf_61 : decode cX5_turnOf 61 = .ok (.istore 6, 2) := by decide +kernel
theorem dX5_turnOf_63 : decode cX5_turnOf 63 = .ok (.iconst 0, 1) := by decide +kernel
theorem dX5_turnOf_64 : decode cX5_turnOf 64 = .ok (.istore 7, 2) := by decide +kernel
theorem dX5_turnOf_66 : decode cX5_turnOf 66 = .ok (.iload 7, 2) := by decide +kernel
theorem dX5_turnOf_68 : decode cX5_turnOf 68 = .ok (.iload 5, 2) := by decide +kernel
theorem dX5_turnOf_70 : decode cX5_turnOf 70 = .ok (.if_icmp .gt 46, 3) := by decide +kernel
theorem dX5_turnOf_73 : decode cX5_turnOf 73 = .ok (.aload_n 0, 1) := by decide +kernel
theorem dX5_turnOf_74 : decode cX5_turnOf 74 = .ok (.iload 7, 2) := by decide +kernel
theorem dX5_turnOf_76 : decode cX5_turnOf 76 = .ok (.invokevirtual 175, 3) := by decide +kernel
theorem dX5_turnOf_79 : decode cX5_turnOf 79 = .ok (.iload 7, 2) := by decide +kernel
theorem dX5_turnOf_81 : decode cX5_turnOf 81 = .ok (.ifCond .eq 7, 3) := by decide +kernel
theorem dX5_turnOf_84 : decode cX5_turnOf 84 = .ok (.iload_n 3, 1) := by decide +kernel
theorem dX5_turnOf_85 : decode cX5_turnOf 85 = .ok (.ifCond .eq 11, 3) := by decide +kernel
theorem dX5_turnOf_88 : decode cX5_turnOf 88 = .ok (.aload_n 0, 1) := by decide +kernel
theorem dX5_turnOf_89 : decode cX5_turnOf 89 = .ok (.iload_n 2, 1) := by decide +kernel
theorem dX5_turnOf_90 : decode cX5_turnOf 90 = .ok (.iload_n 1, 1) := by decide +kernel
theorem dX5_turnOf_91 : decode cX5_turnOf 91 = .ok (.invokevirtual 141, 3) := by decide +kernel
theorem dX5_turnOf_94 : decode cX5_turnOf 94 = .ok (.istore 6, 2) := by decide +kernel
theorem dX5_turnOf_96 : decode cX5_turnOf 96 = .ok (.iload 6, 2) := by decide +kernel
theorem dX5_turnOf_98 : decode cX5_turnOf 98 = .ok (.aload_n 0, 1) := by decide +kernel
theorem dX5_turnOf_99 : decode cX5_turnOf 99 = .ok (.iload_n 2, 1) := by decide +kernel
theorem dX5_turnOf_100 : decode cX5_turnOf 100 = .ok (.iload_n 1, 1) := by decide +kernel
theorem dX5_turnOf_101 : decode cX5_turnOf 101 = .ok (.invokevirtual 144, 3) := by decide +kernel
theorem dX5_turnOf_104 : decode cX5_turnOf 104 = .ok (.if_icmp .gt 6, 3) := by decide +kernel
theorem dX5_turnOf_107 : decode cX5_turnOf 107 = .ok (.iload 7, 2) := by decide +kernel
theorem dX5_turnOf_109 : decode cX5_turnOf 109 = .ok (.ireturn, 1) := by decide +kernel
theorem dX5_turnOf_110 : decode cX5_turnOf 110 = .ok (.iinc 7 1, 3) := by decide +kernel
theorem dX5_turnOf_113 : decode cX5_turnOf 113 = .ok (.goto (-47), 3) := by decide +kernel
theorem dX5_turnOf_116 : decode cX5_turnOf 116 = .ok (.iconst (-1), 1) := by decide +kernel
theorem dX5_turnOf_117 : decode cX5_turnOf 117 = .ok (.ireturn, 1) := by decide +kernel
theorem dX6_init_0 : decode cX6_init 0 = .ok (.aload_n 0, 1) := by decide +kernel
theorem dX6_init_1 : decode cX6_init 1 = .ok (.invokespecial 3, 3) := by decide +kernel
theorem dX6_init_4 : decode cX6_init 4 = .ok (.aload_n 0, 1) := by decide +kernel
theorem dX6_init_5 : decode cX6_init 5 = .ok (.new 9, 3) := by decide +kernel
theorem dX6_init_8 : decode cX6_init 8 = .ok (.dup, 1) := by decide +kernel
theorem dX6_init_9 : decode cX6_init 9 = .ok (.invokespecial 11, 3) := by decide +kernel
theorem dX6_init_12 : decode cX6_init 12 = .ok (.putfield 12, 3) := by decide +kernel
theorem dX6_init_15 : decode cX6_init 15 = .ok (.aload_n 0, 1) := by decide +kernel
theorem dX6_init_16 : decode cX6_init 16 = .ok (.sipush 160, 3) := by decide +kernel
theorem dX6_init_19 : decode cX6_init 19 = .ok (.newarray .int, 2) := by decide +kernel
theorem dX6_init_21 : decode cX6_init 21 = .ok (.putfield 18, 3) := by decide +kernel
theorem dX6_init_24 : decode cX6_init 24 = .ok (.aload_n 0, 1) := by decide +kernel
theorem dX6_init_25 : decode cX6_init 25 = .ok (.iconst 3, 1) := by decide +kernel
theorem dX6_init_26 : decode cX6_init 26 = .ok (.newarray .int, 2) := by decide +kernel
theorem dX6_init_28 : decode cX6_init 28 = .ok (.putfield 22, 3) := by decide +kernel
theorem dX6_init_31 : decode cX6_init 31 = .ok (.return_, 1) := by decide +kernel
theorem dX6_readTape_0 : decode cX6_readTape 0 = .ok (.aload_n 0, 1) := by decide +kernel
theorem dX6_readTape_1 : decode cX6_readTape 1 = .ok (.getfield 12, 3) := by decide +kernel
theorem dX6_readTape_4 : decode cX6_readTape 4 = .ok (.invokevirtual 25, 3) := by decide +kernel
theorem dX6_readTape_7 : decode cX6_readTape 7 = .ok (.aload_n 0, 1) := by decide +kernel
theorem dX6_readTape_8 : decode cX6_readTape 8 = .ok (.iconst 0, 1) := by decide +kernel
theorem dX6_readTape_9 : decode cX6_readTape 9 = .ok (.putfield 28, 3) := by decide +kernel
theorem dX6_readTape_12 : decode cX6_readTape 12 = .ok (.aload_n 0, 1) := by decide +kernel
theorem dX6_readTape_13 : decode cX6_readTape 13 = .ok (.iconst 0, 1) := by decide +kernel
theorem dX6_readTape_14 : decode cX6_readTape 14 = .ok (.putfield 32, 3) := by decide +kernel
theorem dX6_readTape_17 : decode cX6_readTape 17 = .ok (.aload_n 0, 1) := by decide +kernel
theorem dX6_readTape_18 : decode cX6_readTape 18 = .ok (.invokevirtual 35, 3) := by decide +kernel
theorem dX6_readTape_21 : decode cX6_readTape 21 = .ok (.istore_n 1, 1) := by decide +kernel
theorem dX6_readTape_22 : decode cX6_readTape 22 = .ok (.iload_n 1, 1) := by decide +kernel
theorem dX6_readTape_23 : decode cX6_readTape 23 = .ok (.ifCond .ne 17, 3) := by decide +kernel
theorem dX6_readTape_26 : decode cX6_readTape 26 = .ok (.aload_n 0, 1) := by decide +kernel
theorem dX6_readTape_27 : decode cX6_readTape 27 = .ok (.getfield 28, 3) := by decide +kernel
theorem dX6_readTape_30 : decode cX6_readTape 30 = .ok (.aload_n 0, 1) := by decide +kernel
theorem dX6_readTape_31 : decode cX6_readTape 31 = .ok (.getfield 12, 3) := by decide +kernel
theorem dX6_readTape_34 : decode cX6_readTape 34 = .ok (.getfield 39, 3) := by decide +kernel
theorem dX6_readTape_37 : decode cX6_readTape 37 = .ok (.if_icmp .lt 7, 3) := by decide +kernel
theorem dX6_readTape_40 : decode cX6_readTape 40 = .ok (.iconst (-1), 1) := by decide +kernel
theorem dX6_readTape_41 : decode cX6_readTape 41 = .ok (.goto 15, 3) := by decide +kernel
theorem dX6_readTape_44 : decode cX6_readTape 44 = .ok (.aload_n 0, 1) := by decide +kernel
theorem dX6_readTape_45 : decode cX6_readTape 45 = .ok (.getfield 12, 3) := by decide +kernel
theorem dX6_readTape_48 : decode cX6_readTape 48 = .ok (.getfield 42, 3) := by decide +kernel
theorem dX6_readTape_51 : decode cX6_readTape 51 = .ok (.aload_n 0, 1) := by decide +kernel
theorem dX6_readTape_52 : decode cX6_readTape 52 = .ok (.getfield 28, 3) := by decide +kernel
theorem dX6_readTape_55 : decode cX6_readTape 55 = .ok (.iaload, 1) := by decide +kernel
theorem dX6_readTape_56 : decode cX6_readTape 56 = .ok (.istore_n 2, 1) := by decide +kernel
theorem dX6_readTape_57 : decode cX6_readTape 57 = .ok (.aload_n 0, 1) := by decide +kernel
theorem dX6_readTape_58 : decode cX6_readTape 58 = .ok (.getfield 12, 3) := by decide +kernel
theorem dX6_readTape_61 : decode cX6_readTape 61 = .ok (.iconst 0, 1) := by decide +kernel
theorem dX6_readTape_62 : decode cX6_readTape 62 = .ok (.putfield 45, 3) := by decide +kernel
theorem dX6_readTape_65 : decode cX6_readTape 65 = .ok (.iload_n 2, 1) := by decide +kernel
theorem dX6_readTape_66 : decode cX6_readTape 66 = .ok (.ireturn, 1) := by decide +kernel
theorem dX6_readKeys_0 : decode cX6_readKeys 0 = .ok (.iconst 0, 1) := by decide +kernel
theorem dX6_readKeys_1 : decode cX6_readKeys 1 = .ok (.istore_n 1, 1) := by decide +kernel
theorem dX6_readKeys_2 : decode cX6_readKeys 2 = .ok (.iload_n 1, 1) := by decide +kernel
theorem dX6_readKeys_3 : decode cX6_readKeys 3 = .ok (.iconst 3, 1) := by decide +kernel
theorem dX6_readKeys_4 : decode cX6_readKeys 4 = .ok (.if_icmp .ge 50, 3) := by decide +kernel
theorem dX6_readKeys_7 : decode cX6_readKeys 7 = .ok (.aload_n 0, 1) := by decide +kernel
theorem dX6_readKeys_8 : decode cX6_readKeys 8 = .ok (.sipush 262, 3) := by decide +kernel
theorem dX6_readKeys_11 : decode cX6_readKeys 11 = .ok (.iload_n 1, 1) := by decide +kernel
theorem dX6_readKeys_12 : decode cX6_readKeys 12 = .ok (.iadd, 1) := by decide +kernel
theorem dX6_readKeys_13 : decode cX6_readKeys 13 = .ok (.invokevirtual 48, 3) := by decide +kernel
theorem dX6_readKeys_16 : decode cX6_readKeys 16 = .ok (.ifCond .eq 20, 3) := by decide +kernel
theorem dX6_readKeys_19 : decode cX6_readKeys 19 = .ok (.aload_n 0, 1) := by decide +kernel
theorem dX6_readKeys_20 : decode cX6_readKeys 20 = .ok (.iconst 0, 1) := by decide +kernel
theorem dX6_readKeys_21 : decode cX6_readKeys 21 = .ok (.invokevirtual 52, 3) := by decide +kernel
theorem dX6_readKeys_24 : decode cX6_readKeys 24 = .ok (.ifCond .eq 12, 3) := by decide +kernel
theorem dX6_readKeys_27 : decode cX6_readKeys 27 = .ok (.aload_n 0, 1) := by decide +kernel
theorem dX6_readKeys_28 : decode cX6_readKeys 28 = .ok (.bipush 59, 2) := by decide +kernel
theorem dX6_readKeys_30 : decode cX6_readKeys 30 = .ok (.invokevirtual 48, 3) := by decide +kernel
theorem dX6_readKeys_33 : decode cX6_readKeys 33 = .ok (.ifCond .ne 5, 3) := by decide +kernel
theorem dX6_readKeys_36 : decode cX6_readKeys 36 = .ok (.iconst 0, 1) := by decide +kernel
theorem dX6_readKeys_37 : decode cX6_readKeys 37 = .ok (.ireturn, 1) := by decide +kernel
theorem dX6_readKeys_38 : decode cX6_readKeys 38 = .ok (.aload_n 0, 1) := by decide +kernel
theorem dX6_readKeys_39 : decode cX6_readKeys 39 = .ok (.getfield 22, 3) := by decide +kernel
theorem dX6_readKeys_42 : decode cX6_readKeys 42 = .ok (.iload_n 1, 1) := by decide +kernel
theorem dX6_readKeys_43 : decode cX6_readKeys 43 = .ok (.aload_n 0, 1) := by decide +kernel
theorem dX6_readKeys_44 : decode cX6_readKeys 44 = .ok (.getfield 32, 3) := by decide +kernel
theorem dX6_readKeys_47 : decode cX6_readKeys 47 = .ok (.iastore, 1) := by decide +kernel
theorem dX6_readKeys_48 : decode cX6_readKeys 48 = .ok (.iinc 1 1, 3) := by decide +kernel
theorem dX6_readKeys_51 : decode cX6_readKeys 51 = .ok (.goto (-49), 3) := by decide +kernel
theorem dX6_readKeys_54 : decode cX6_readKeys 54 = .ok (.aload_n 0, 1) := by decide +kernel
theorem dX6_readKeys_55 : decode cX6_readKeys 55 = .ok (.invokevirtual 55, 3) := by decide +kernel
theorem dX6_readKeys_58 : decode cX6_readKeys 58 = .ok (.iconst (-1), 1) := by decide +kernel
theorem dX6_readKeys_59 : decode cX6_readKeys 59 = .ok (.if_icmp .ne 7, 3) := by decide +kernel
theorem dX6_readKeys_62 : decode cX6_readKeys 62 = .ok (.iconst 1, 1) := by decide +kernel
theorem dX6_readKeys_63 : decode cX6_readKeys 63 = .ok (.goto 4, 3) := by decide +kernel
theorem dX6_readKeys_66 : decode cX6_readKeys 66 = .ok (.iconst 0, 1) := by decide +kernel
theorem dX6_readKeys_67 : decode cX6_readKeys 67 = .ok (.ireturn, 1) := by decide +kernel
theorem dX6_kindNow_0 : decode cX6_kindNow 0 = .ok (.aload_n 0, 1) := by decide +kernel
theorem dX6_kindNow_1 : decode cX6_kindNow 1 = .ok (.getfield 28, 3) := by decide +kernel
theorem dX6_kindNow_4 : decode cX6_kindNow 4 = .ok (.aload_n 0, 1) := by decide +kernel
theorem dX6_kindNow_5 : decode cX6_kindNow 5 = .ok (.getfield 12, 3) := by decide +kernel
theorem dX6_kindNow_8 : decode cX6_kindNow 8 = .ok (.getfield 39, 3) := by decide +kernel
theorem dX6_kindNow_11 : decode cX6_kindNow 11 = .ok (.if_icmp .ge 18, 3) := by decide +kernel
theorem dX6_kindNow_14 : decode cX6_kindNow 14 = .ok (.aload_n 0, 1) := by decide +kernel
theorem dX6_kindNow_15 : decode cX6_kindNow 15 = .ok (.getfield 12, 3) := by decide +kernel
theorem dX6_kindNow_18 : decode cX6_kindNow 18 = .ok (.getfield 59, 3) := by decide +kernel
theorem dX6_kindNow_21 : decode cX6_kindNow 21 = .ok (.aload_n 0, 1) := by decide +kernel
theorem dX6_kindNow_22 : decode cX6_kindNow 22 = .ok (.getfield 28, 3) := by decide +kernel
theorem dX6_kindNow_25 : decode cX6_kindNow 25 = .ok (.iaload, 1) := by decide +kernel
theorem dX6_kindNow_26 : decode cX6_kindNow 26 = .ok (.goto 4, 3) := by decide +kernel
theorem dX6_kindNow_29 : decode cX6_kindNow 29 = .ok (.iconst (-1), 1) := by decide +kernel
theorem dX6_kindNow_30 : decode cX6_kindNow 30 = .ok (.ireturn, 1) := by decide +kernel
theorem dX6_pass_0 : decode cX6_pass 0 = .ok (.aload_n 0, 1) := by decide +kernel
theorem dX6_pass_1 : decode cX6_pass 1 = .ok (.invokevirtual 55, 3) := by decide +kernel
theorem dX6_pass_4 : decode cX6_pass 4 = .ok (.iload_n 1, 1) := by decide +kernel
theorem dX6_pass_5 : decode cX6_pass 5 = .ok (.if_icmp .eq 5, 3) := by decide +kernel
theorem dX6_pass_8 : decode cX6_pass 8 = .ok (.iconst 0, 1) := by decide +kernel
theorem dX6_pass_9 : decode cX6_pass 9 = .ok (.ireturn, 1) := by decide +kernel
theorem dX6_pass_10 : decode cX6_pass 10 = .ok (.aload_n 0, 1) := by decide +kernel
theorem dX6_pass_11 : decode cX6_pass 11 = .ok (.dup, 1) := by decide +kernel
theorem dX6_pass_12 : decode cX6_pass 12 = .ok (.getfield 28, 3) := by decide +kernel
theorem dX6_pass_15 : decode cX6_pass 15 = .ok (.iconst 1, 1) := by decide +kernel
theorem dX6_pass_16 : decode cX6_pass 16 = .ok (.iadd, 1) := by decide +kernel
theorem dX6_pass_17 : decode cX6_pass 17 = .ok (.putfield 28, 3) := by decide +kernel
theorem dX6_pass_20 : decode cX6_pass 20 = .ok (.iconst 1, 1) := by decide +kernel
theorem dX6_pass_21 : decode cX6_pass 21 = .ok (.ireturn, 1) := by decide +kernel
theorem dX6_emit_0 : decode cX6_emit 0 = .ok (.aload_n 0, 1) := by decide +kernel
theorem dX6_emit_1 : decode cX6_emit 1 = .ok (.getfield 32, 3) := by decide +kernel
theorem dX6_emit_4 : decode cX6_emit 4 = .ok (.sipush 160, 3) := by decide +kernel
theorem dX6_emit_7 : decode cX6_emit 7 = .ok (.if_icmp .ge 23, 3) := by decide +kernel
theorem dX6_emit_10 : decode cX6_emit 10 = .ok (.aload_n 0, 1) := by decide +kernel
theorem dX6_emit_11 : decode cX6_emit 11 = .ok (.getfield 18, 3) := by decide +kernel
theorem dX6_emit_14 : decode cX6_emit 14 = .ok (.aload_n 0, 1) := by decide +kernel
theorem dX6_emit_15 : decode cX6_emit 15 = .ok (.getfield 32, 3) := by decide +kernel
theorem dX6_emit_18 : decode cX6_emit 18 = .ok (.iload_n 1, 1) := by decide +kernel
theorem dX6_emit_19 : decode cX6_emit 19 = .ok (.iastore, 1) := by decide +kernel
theorem dX6_emit_20 : decode cX6_emit 20 = .ok (.aload_n 0, 1) := by decide +kernel
theorem dX6_emit_21 : decode cX6_emit 21 = .ok (.dup, 1) := by decide +kernel
theorem dX6_emit_22 : decode cX6_emit 22 = .ok (.getfield 32, 3) := by decide +kernel
theorem dX6_emit_25 : decode cX6_emit 25 = .ok (.iconst 1, 1) := by decide +kernel
theorem dX6_emit_26 : decode cX6_emit 26 = .ok (.iadd, 1) := by decide +kernel
theorem dX6_emit_27 : decode cX6_emit 27 = .ok (.putfield 32, 3) := by decide +kernel
theorem dX6_emit_30 : decode cX6_emit 30 = .ok (.return_, 1) := by decide +kernel
theorem dX6_readOr_0 : decode cX6_readOr 0 = .ok (.aload_n 0, 1) := by decide +kernel
theorem dX6_readOr_1 : decode cX6_readOr 1 = .ok (.iload_n 1, 1) := by decide +kernel
theorem dX6_readOr_2 : decode cX6_readOr 2 = .ok (.invokevirtual 62, 3) := by decide +kernel
theorem dX6_readOr_5 : decode cX6_readOr 5 = .ok (.ifCond .ne 5, 3) := by decide +kernel
theorem dX6_readOr_8 : decode cX6_readOr 8 = .ok (.iconst 0, 1) := by decide +kernel
theorem dX6_readOr_9 : decode cX6_readOr 9 = .ok (.ireturn, 1) := by decide +kernel
theorem dX6_readOr_10 : decode cX6_readOr 10 = .ok (.iconst 0, 1) := by decide +kernel
theorem dX6_readOr_11 : decode cX6_readOr 11 = .ok (.istore_n 2, 1) := by decide +kernel
theorem dX6_readOr_12 : decode cX6_readOr 12 = .ok (.iload_n 2, 1) := by decide +kernel
theorem dX6_readOr_13 : decode cX6_readOr 13 = .ok (.sipush 160, 3) := by decide +kernel
theorem dX6_readOr_16 : decode cX6_readOr 16 = .ok (.if_icmp .ge 35, 3) := by decide +kernel
theorem dX6_readOr_19 : decode cX6_readOr 19 = .ok (.aload_n 0, 1) := by decide +kernel
theorem dX6_readOr_20 : decode cX6_readOr 20 = .ok (.sipush 265, 3) := by decide +kernel
theorem dX6_readOr_23 : decode cX6_readOr 23 = .ok (.invokevirtual 48, 3) := by decide +kernel
theorem dX6_readOr_26 : decode cX6_readOr 26 = .ok (.ifCond .eq 25, 3) := by decide +kernel
theorem dX6_readOr_29 : decode cX6_readOr 29 = .ok (.aload_n 0, 1) := by decide +kernel
theorem dX6_readOr_30 : decode cX6_readOr 30 = .ok (.iload_n 1, 1) := by decide +kernel
theorem dX6_readOr_31 : decode cX6_readOr 31 = .ok (.invokevirtual 62, 3) := by decide +kernel
theorem dX6_readOr_34 : decode cX6_readOr 34 = .ok (.ifCond .ne 5, 3) := by decide +kernel
theorem dX6_readOr_37 : decode cX6_readOr 37 = .ok (.iconst 0, 1) := by decide +kernel
theorem dX6_readOr_38 : decode cX6_readOr 38 = .ok (.ireturn, 1) := by decide +kernel
theorem dX6_readOr_39 : decode cX6_readOr 39 = .ok (.aload_n 0, 1) := by decide +kernel
theorem dX6_readOr_40 : decode cX6_readOr 40 = .ok (.bipush (-11), 2) := by decide +kernel
theorem dX6_readOr_42 : decode cX6_readOr 42 = .ok (.invokevirtual 65, 3) := by decide +kernel
theorem dX6_readOr_45 : decode cX6_readOr 45 = .ok (.iinc 2 1, 3) := by decide +kernel
theorem dX6_readOr_48 : decode cX6_readOr 48 = .ok (.goto (-36), 3) := by decide +kernel
theorem dX6_readOr_51 : decode cX6_readOr 51 = .ok (.iconst 1, 1) := by decide +kernel
theorem dX6_readOr_52 : decode cX6_readOr 52 = .ok (.ireturn, 1) := by decide +kernel
theorem dX6_readAnd_0 : decode cX6_readAnd 0 = .ok (.aload_n 0, 1) := by decide +kernel
theorem dX6_readAnd_1 : decode cX6_readAnd 1 = .ok (.iload_n 1, 1) := by decide +kernel
theorem dX6_readAnd_2 : decode cX6_readAnd 2 = .ok (.invokevirtual 69, 3) := by decide +kernel
theorem dX6_readAnd_5 : decode cX6_readAnd 5 = .ok (.ifCond .ne 5, 3) := by decide +kernel
theorem dX6_readAnd_8 : decode cX6_readAnd 8 = .ok (.iconst 0, 1) := by decide +kernel
theorem dX6_readAnd_9 : decode cX6_readAnd 9 = .ok (.ireturn, 1) := by decide +kernel
theorem dX6_readAnd_10 : decode cX6_readAnd 10 = .ok (.iconst 0, 1) := by decide +kernel
theorem dX6_readAnd_11 : decode cX6_readAnd 11 = .ok (.istore_n 2, 1) := by decide +kernel
theorem dX6_readAnd_12 : decode cX6_readAnd 12 = .ok (.iload_n 2, 1) := by decide +kernel
theorem dX6_readAnd_13 : decode cX6_readAnd 13 = .ok (.sipush 160, 3) := by decide +kernel
theorem dX6_readAnd_16 : decode cX6_readAnd 16 = .ok (.if_icmp .ge 35, 3) := by decide +kernel
theorem dX6_readAnd_19 : decode cX6_readAnd 19 = .ok (.aload_n 0, 1) := by decide +kernel
theorem dX6_readAnd_20 : decode cX6_readAnd 20 = .ok (.sipush 266, 3) := by decide +kernel
theorem dX6_readAnd_23 : decode cX6_readAnd 23 = .ok (.invokevirtual 48, 3) := by decide +kernel
theorem dX6_readAnd_26 : decode cX6_readAnd 26 = .ok (.ifCond .eq 25, 3) := by decide +kernel
theorem dX6_readAnd_29 : decode cX6_readAnd 29 = .ok (.aload_n 0, 1) := by decide +kernel
theorem dX6_readAnd_30 : decode cX6_readAnd 30 = .ok (.iload_n 1, 1) := by decide +kernel
theorem dX6_readAnd_31 : decode cX6_readAnd 31 = .ok (.invokevirtual 69, 3) := by decide +kernel
theorem dX6_readAnd_34 : decode cX6_readAnd 34 = .ok (.ifCond .ne 5, 3) := by decide +kernel
theorem dX6_readAnd_37 : decode cX6_readAnd 37 = .ok (.iconst 0, 1) := by decide +kernel
theorem dX6_readAnd_38 : decode cX6_readAnd 38 = .ok (.ireturn, 1) := by decide +kernel
theorem dX6_readAnd_39 : decode cX6_readAnd 39 = .ok (.aload_n 0, 1) := by decide +kernel
theorem dX6_readAnd_40 : decode cX6_readAnd 40 = .ok (.bipush (-12), 2) := by decide +kernel
theorem dX6_readAnd_42 : decode cX6_readAnd 42 = .ok (.invokevirtual 65, 3) := by decide +kernel
theorem dX6_readAnd_45 : decode cX6_readAnd 45 = .ok (.iinc 2 1, 3) := by decide +kernel
theorem dX6_readAnd_48 : decode cX6_readAnd 48 = .ok (.goto (-36), 3) := by decide +kernel
theorem dX6_readAnd_51 : decode cX6_readAnd 51 = .ok (.iconst 1, 1) := by decide +kernel
theorem dX6_readAnd_52 : decode cX6_readAnd 52 = .ok (.ireturn, 1) := by decide +kernel
theorem dX6_readNot_0 : decode cX6_readNot 0 = .ok (.aload_n 0, 1) := by decide +kernel
theorem dX6_readNot_1 : decode cX6_readNot 1 = .ok (.invokevirtual 55, 3) := by decide +kernel
theorem dX6_readNot_4 : decode cX6_readNot 4 = .ok (.sipush 267, 3) := by decide +kernel
theorem dX6_readNot_7 : decode cX6_readNot 7 = .ok (.if_icmp .ne 40, 3) := by decide +kernel
theorem dX6_readNot_10 : decode cX6_readNot 10 = .ok (.iload_n 1, 1) := by decide +kernel
theorem dX6_readNot_11 : decode cX6_readNot 11 = .ok (.iconst 5, 1) := by decide +kernel
theorem dX6_readNot_12 : decode cX6_readNot 12 = .ok (.if_icmp .lt 5, 3) := by decide +kernel
theorem dX6_readNot_15 : decode cX6_readNot 15 = .ok (.iconst 0, 1) := by decide +kernel
theorem dX6_readNot_16 : decode cX6_readNot 16 = .ok (.ireturn, 1) := by decide +kernel
theorem dX6_readNot_17 : decode cX6_readNot 17 = .ok (.aload_n 0, 1) := by decide +kernel
theorem dX6_readNot_18 : decode cX6_readNot 18 = .ok (.dup, 1) := by decide +kernel
theorem dX6_readNot_19 : decode cX6_readNot 19 = .ok (.getfield 28, 3) := by decide +kernel
theorem dX6_readNot_22 : decode cX6_readNot 22 = .ok (.iconst 1, 1) := by decide +kernel
theorem dX6_readNot_23 : decode cX6_readNot 23 = .ok (.iadd, 1) := by decide +kernel
theorem dX6_readNot_24 : decode cX6_readNot 24 = .ok (.putfield 28, 3) := by decide +kernel
theorem dX6_readNot_27 : decode cX6_readNot 27 = .ok (.aload_n 0, 1) := by decide +kernel
theorem dX6_readNot_28 : decode cX6_readNot 28 = .ok (.iload_n 1, 1) := by decide +kernel
theorem dX6_readNot_29 : decode cX6_readNot 29 = .ok (.iconst 1, 1) := by decide +kernel
theorem dX6_readNot_30 : decode cX6_readNot 30 = .ok (.iadd, 1) := by decide +kernel
theorem dX6_readNot_31 : decode cX6_readNot 31 = .ok (.invokevirtual 69, 3) := by decide +kernel
theorem dX6_readNot_34 : decode cX6_readNot 34 = .ok (.ifCond .ne 5, 3) := by decide +kernel
theorem dX6_readNot_37 : decode cX6_readNot 37 = .ok (.iconst 0, 1) := by decide +kernel
theorem dX6_readNot_38 : decode cX6_readNot 38 = .ok (.ireturn, 1) := by decide +kernel
theorem dX6_readNot_39 : decode cX6_readNot 39 = .ok (.aload_n 0, 1) := by decide +kernel
theorem dX6_readNot_40 : decode cX6_readNot 40 = .ok (.bipush (-13), 2) := by decide +kernel
theorem dX6_readNot_42 : decode cX6_readNot 42 = .ok (.invokevirtual 65, 3) := by decide +kernel
theorem dX6_readNot_45 : decode cX6_readNot 45 = .ok (.iconst 1, 1) := by decide +kernel
theorem dX6_readNot_46 : decode cX6_readNot 46 = .ok (.ireturn, 1) := by decide +kernel
theorem dX6_readNot_47 : decode cX6_readNot 47 = .ok (.aload_n 0, 1) := by decide +kernel
theorem dX6_readNot_48 : decode cX6_readNot 48 = .ok (.iload_n 1, 1) := by decide +kernel
theorem dX6_readNot_49 : decode cX6_readNot 49 = .ok (.invokevirtual 72, 3) := by decide +kernel
theorem dX6_readNot_52 : decode cX6_readNot 52 = .ok (.ifCond .ne 5, 3) := by decide +kernel
theorem dX6_readNot_55 : decode cX6_readNot 55 = .ok (.iconst 0, 1) := by decide +kernel
theorem dX6_readNot_56 : decode cX6_readNot 56 = .ok (.ireturn, 1) := by decide +kernel
theorem dX6_readNot_57 : decode cX6_readNot 57 = .ok (.aload_n 0, 1) := by decide +kernel
theorem dX6_readNot_58 : decode cX6_readNot 58 = .ok (.invokevirtual 55, 3) := by decide +kernel
theorem dX6_readNot_61 : decode cX6_readNot 61 = .ok (.istore_n 2, 1) := by decide +kernel
theorem dX6_readNot_62 : decode cX6_readNot 62 = .ok (.iload_n 2, 1) := by decide +kernel
theorem dX6_readNot_63 : decode cX6_readNot 63 = .ok (.bipush 60, 2) := by decide +kernel
theorem dX6_readNot_65 : decode cX6_readNot 65 = .ok (.if_icmp .eq 9, 3) := by decide +kernel
theorem dX6_readNot_68 : decode cX6_readNot 68 = .ok (.iload_n 2, 1) := by decide +kernel
theorem dX6_readNot_69 : decode cX6_readNot 69 = .ok (.bipush 61, 2) := by decide +kernel
theorem dX6_readNot_71 : decode cX6_readNot 71 = .ok (.if_icmp .ne 40, 3) := by decide +kernel
theorem dX6_readNot_74 : decode cX6_readNot 74 = .ok (.aload_n 0, 1) := by decide +kernel
theorem dX6_readNot_75 : decode cX6_readNot 75 = .ok (.dup, 1) := by decide +kernel
theorem dX6_readNot_76 : decode cX6_readNot 76 = .ok (.getfield 28, 3) := by decide +kernel
theorem dX6_readNot_79 : decode cX6_readNot 79 = .ok (.iconst 1, 1) := by decide +kernel
theorem dX6_readNot_80 : decode cX6_readNot 80 = .ok (.iadd, 1) := by decide +kernel
theorem dX6_readNot_81 : decode cX6_readNot 81 = .ok (.putfield 28, 3) := by decide +kernel
theorem dX6_readNot_84 : decode cX6_readNot 84 = .ok (.aload_n 0, 1) := by decide +kernel
theorem dX6_readNot_85 : decode cX6_readNot 85 = .ok (.iload_n 1, 1) := by decide +kernel
theorem dX6_readNot_86 : decode cX6_readNot 86 = .ok (.invokevirtual 72, 3) := by decide +kernel
theorem dX6_readNot_89 : decode cX6_readNot 89 = .ok (.ifCond .ne 5, 3) := by decide +kernel
theorem dX6_readNot_92 : decode cX6_readNot 92 = .ok (.iconst 0, 1) := by decide +kernel
theorem dX6_readNot_93 : decode cX6_readNot 93 = .ok (.ireturn, 1) := by decide +kernel
theorem dX6_readNot_94 : decode cX6_readNot 94 = .ok (.aload_n 0, 1) := by decide +kernel
theorem dX6_readNot_95 : decode cX6_readNot 95 = .ok (.iload_n 2, 1) := by decide +kernel
theorem dX6_readNot_96 : decode cX6_readNot 96 = .ok (.bipush 60, 2) := by decide +kernel
theorem dX6_readNot_98 : decode cX6_readNot 98 = .ok (.if_icmp .ne 8, 3) := by decide +kernel
theorem dX6_readNot_101 : decode cX6_readNot 101 = .ok (.bipush (-14), 2) := by decide +kernel
theorem dX6_readNot_103 : decode cX6_readNot 103 = .ok (.goto 5, 3) := by decide +kernel
theorem dX6_readNot_106 : decode cX6_readNot 106 = .ok (.bipush (-15), 2) := by decide +kernel
theorem dX6_readNot_108 : decode cX6_readNot 108 = .ok (.invokevirtual 65, 3) := by decide +kernel
theorem dX6_readNot_111 : decode cX6_readNot 111 = .ok (.iconst 1, 1) := by decide +kernel
theorem dX6_readNot_112 : decode cX6_readNot 112 = .ok (.ireturn, 1) := by decide +kernel
theorem dX6_readSum_0 : decode cX6_readSum 0 = .ok (.aload_n 0, 1) := by decide +kernel
theorem dX6_readSum_1 : decode cX6_readSum 1 = .ok (.iload_n 1, 1) := by decide +kernel
theorem dX6_readSum_2 : decode cX6_readSum 2 = .ok (.invokevirtual 75, 3) := by decide +kernel
theorem dX6_readSum_5 : decode cX6_readSum 5 = .ok (.ifCond .ne 5, 3) := by decide +kernel
theorem dX6_readSum_8 : decode cX6_readSum 8 = .ok (.iconst 0, 1) := by decide +kernel
theorem dX6_readSum_9 : decode cX6_readSum 9 = .ok (.ireturn, 1) := by decide +kernel
theorem dX6_readSum_10 : decode cX6_readSum 10 = .ok (.aload_n 0, 1) := by decide +kernel
theorem dX6_readSum_11 : decode cX6_readSum 11 = .ok (.invokevirtual 55, 3) := by decide +kernel
theorem dX6_readSum_14 : decode cX6_readSum 14 = .ok (.istore_n 2, 1) := by decide +kernel
theorem dX6_readSum_15 : decode cX6_readSum 15 = .ok (.iconst 0, 1) := by decide +kernel
theorem dX6_readSum_16 : decode cX6_readSum 16 = .ok (.istore_n 3, 1) := by decide +kernel
theorem dX6_readSum_17 : decode cX6_readSum 17 = .ok (.iload_n 3, 1) := by decide +kernel
theorem dX6_readSum_18 : decode cX6_readSum 18 = .ok (.sipush 160, 3) := by decide +kernel
theorem dX6_readSum_21 : decode cX6_readSum 21 = .ok (.if_icmp .ge 63, 3) := by decide +kernel
theorem dX6_readSum_24 : decode cX6_readSum 24 = .ok (.iload_n 2, 1) := by decide +kernel
theorem dX6_readSum_25 : decode cX6_readSum 25 = .ok (.bipush 43, 2) := by decide +kernel
theorem dX6_readSum_27 : decode cX6_readSum 27 = .ok (.if_icmp .eq 9, 3) := by decide +kernel
theorem dX6_readSum_30 : decode cX6_readSum 30 = .ok (.iload_n 2, 1) := by decide +kernel
theorem dX6_readSum_31 : decode cX6_readSum 31 = .ok (.bipush 45, 2) := by decide +kernel
theorem dX6_readSum_33 : decode cX6_readSum 33 = .ok (.if_icmp .ne 51, 3) := by decide +kernel
theorem dX6_readSum_36 : decode cX6_readSum 36 = .ok (.aload_n 0, 1) := by decide +kernel
theorem dX6_readSum_37 : decode cX6_readSum 37 = .ok (.dup, 1) := by decide +kernel
theorem dX6_readSum_38 : decode cX6_readSum 38 = .ok (.getfield 28, 3) := by decide +kernel
theorem dX6_readSum_41 : decode cX6_readSum 41 = .ok (.iconst 1, 1) := by decide +kernel
theorem dX6_readSum_42 : decode cX6_readSum 42 = .ok (.iadd, 1) := by decide +kernel
theorem dX6_readSum_43 : decode cX6_readSum 43 = .ok (.putfield 28, 3) := by decide +kernel
theorem dX6_readSum_46 : decode cX6_readSum 46 = .ok (.aload_n 0, 1) := by decide +kernel
theorem dX6_readSum_47 : decode cX6_readSum 47 = .ok (.iload_n 1, 1) := by decide +kernel
theorem dX6_readSum_48 : decode cX6_readSum 48 = .ok (.invokevirtual 75, 3) := by decide +kernel
theorem dX6_readSum_51 : decode cX6_readSum 51 = .ok (.ifCond .ne 5, 3) := by decide +kernel
theorem dX6_readSum_54 : decode cX6_readSum 54 = .ok (.iconst 0, 1) := by decide +kernel
theorem dX6_readSum_55 : decode cX6_readSum 55 = .ok (.ireturn, 1) := by decide +kernel
theorem dX6_readSum_56 : decode cX6_readSum 56 = .ok (.aload_n 0, 1) := by decide +kernel
theorem dX6_readSum_57 : decode cX6_readSum 57 = .ok (.iload_n 2, 1) := by decide +kernel
theorem dX6_readSum_58 : decode cX6_readSum 58 = .ok (.bipush 43, 2) := by decide +kernel
theorem dX6_readSum_60 : decode cX6_readSum 60 = .ok (.if_icmp .ne 8, 3) := by decide +kernel
theorem dX6_readSum_63 : decode cX6_readSum 63 = .ok (.bipush (-16), 2) := by decide +kernel
theorem dX6_readSum_65 : decode cX6_readSum 65 = .ok (.goto 5, 3) := by decide +kernel
theorem dX6_readSum_68 : decode cX6_readSum 68 = .ok (.bipush (-17), 2) := by decide +kernel
theorem dX6_readSum_70 : decode cX6_readSum 70 = .ok (.invokevirtual 65, 3) := by decide +kernel
theorem dX6_readSum_73 : decode cX6_readSum 73 = .ok (.aload_n 0, 1) := by decide +kernel
theorem dX6_readSum_74 : decode cX6_readSum 74 = .ok (.invokevirtual 55, 3) := by decide +kernel
theorem dX6_readSum_77 : decode cX6_readSum 77 = .ok (.istore_n 2, 1) := by decide +kernel
theorem dX6_readSum_78 : decode cX6_readSum 78 = .ok (.iinc 3 1, 3) := by decide +kernel
theorem dX6_readSum_81 : decode cX6_readSum 81 = .ok (.goto (-64), 3) := by decide +kernel
theorem dX6_readSum_84 : decode cX6_readSum 84 = .ok (.iconst 1, 1) := by decide +kernel
theorem dX6_readSum_85 : decode cX6_readSum 85 = .ok (.ireturn, 1) := by decide +kernel
theorem dX6_readTerm_0 : decode cX6_readTerm 0 = .ok (.aload_n 0, 1) := by decide +kernel
theorem dX6_readTerm_1 : decode cX6_readTerm 1 = .ok (.iload_n 1, 1) := by decide +kernel
theorem dX6_readTerm_2 : decode cX6_readTerm 2 = .ok (.invokevirtual 78, 3) := by decide +kernel
theorem dX6_readTerm_5 : decode cX6_readTerm 5 = .ok (.ifCond .ne 5, 3) := by decide +kernel
theorem dX6_readTerm_8 : decode cX6_readTerm 8 = .ok (.iconst 0, 1) := by decide +kernel
theorem dX6_readTerm_9 : decode cX6_readTerm 9 = .ok (.ireturn, 1) := by decide +kernel
theorem dX6_readTerm_10 : decode cX6_readTerm 10 = .ok (.iconst 0, 1) := by decide +kernel
theorem dX6_readTerm_11 : decode cX6_readTerm 11 = .ok (.istore_n 2, 1) := by decide +kernel
theorem dX6_readTerm_12 : decode cX6_readTerm 12 = .ok (.iload_n 2, 1) := by decide +kernel
theorem dX6_readTerm_13 : decode cX6_readTerm 13 = .ok (.sipush 160, 3) := by decide +kernel
theorem dX6_readTerm_16 : decode cX6_readTerm 16 = .ok (.if_icmp .ge 34, 3) := by decide +kernel
theorem dX6_readTerm_19 : decode cX6_readTerm 19 = .ok (.aload_n 0, 1) := by decide +kernel
theorem dX6_readTerm_20 : decode cX6_readTerm 20 = .ok (.bipush 42, 2) := by decide +kernel
theorem dX6_readTerm_22 : decode cX6_readTerm 22 = .ok (.invokevirtual 48, 3) := by decide +kernel
theorem dX6_readTerm_25 : decode cX6_readTerm 25 = .ok (.ifCond .eq 25, 3) := by decide +kernel
theorem dX6_readTerm_28 : decode cX6_readTerm 28 = .ok (.aload_n 0, 1) := by decide +kernel
theorem dX6_readTerm_29 : decode cX6_readTerm 29 = .ok (.iload_n 1, 1) := by decide +kernel
theorem dX6_readTerm_30 : decode cX6_readTerm 30 = .ok (.invokevirtual 78, 3) := by decide +kernel
theorem dX6_readTerm_33 : decode cX6_readTerm 33 = .ok (.ifCond .ne 5, 3) := by decide +kernel
theorem dX6_readTerm_36 : decode cX6_readTerm 36 = .ok (.iconst 0, 1) := by decide +kernel
theorem dX6_readTerm_37 : decode cX6_readTerm 37 = .ok (.ireturn, 1) := by decide +kernel
theorem dX6_readTerm_38 : decode cX6_readTerm 38 = .ok (.aload_n 0, 1) := by decide +kernel
theorem dX6_readTerm_39 : decode cX6_readTerm 39 = .ok (.bipush (-18), 2) := by decide +kernel
theorem dX6_readTerm_41 : decode cX6_readTerm 41 = .ok (.invokevirtual 65, 3) := by decide +kernel
theorem dX6_readTerm_44 : decode cX6_readTerm 44 = .ok (.iinc 2 1, 3) := by decide +kernel
theorem dX6_readTerm_47 : decode cX6_readTerm 47 = .ok (.goto (-35), 3) := by decide +kernel
theorem dX6_readTerm_50 : decode cX6_readTerm 50 = .ok (.iconst 1, 1) := by decide +kernel
theorem dX6_readTerm_51 : decode cX6_readTerm 51 = .ok (.ireturn, 1) := by decide +kernel
theorem dX6_readOne_0 : decode cX6_readOne 0 = .ok (.aload_n 0, 1) := by decide +kernel
theorem dX6_readOne_1 : decode cX6_readOne 1 = .ok (.invokevirtual 55, 3) := by decide +kernel
theorem dX6_readOne_4 : decode cX6_readOne 4 = .ok (.istore_n 2, 1) := by decide +kernel
theorem dX6_readOne_5 : decode cX6_readOne 5 = .ok (.iload_n 2, 1) := by decide +kernel
theorem dX6_readOne_6 : decode cX6_readOne 6 = .ok (.bipush (-3), 2) := by decide +kernel
theorem dX6_readOne_8 : decode cX6_readOne 8 = .ok (.if_icmp .eq 9, 3) := by decide +kernel
theorem dX6_readOne_11 : decode cX6_readOne 11 = .ok (.iload_n 2, 1) := by decide +kernel
theorem dX6_readOne_12 : decode cX6_readOne 12 = .ok (.bipush (-4), 2) := by decide +kernel
theorem dX6_readOne_14 : decode cX6_readOne 14 = .ok (.if_icmp .ne 31, 3) := by decide +kernel
theorem dX6_readOne_17 : decode cX6_readOne 17 = .ok (.aload_n 0, 1) := by decide +kernel
theorem dX6_readOne_18 : decode cX6_readOne 18 = .ok (.aload_n 0, 1) := by decide +kernel
theorem dX6_readOne_19 : decode cX6_readOne 19 = .ok (.getfield 12, 3) := by decide +kernel
theorem dX6_readOne_22 : decode cX6_readOne 22 = .ok (.getfield 81, 3) := by decide +kernel
theorem dX6_readOne_25 : decode cX6_readOne 25 = .ok (.aload_n 0, 1) := by decide +kernel
theorem dX6_readOne_26 : decode cX6_readOne 26 = .ok (.getfield 28, 3) := by decide +kernel
theorem dX6_readOne_29 : decode cX6_readOne 29 = .ok (.iaload, 1) := by decide +kernel
theorem dX6_readOne_30 : decode cX6_readOne 30 = .ok (.invokevirtual 65, 3) := by decide +kernel
theorem dX6_readOne_33 : decode cX6_readOne 33 = .ok (.aload_n 0, 1) := by decide +kernel
theorem dX6_readOne_34 : decode cX6_readOne 34 = .ok (.dup, 1) := by decide +kernel
theorem dX6_readOne_35 : decode cX6_readOne 35 = .ok (.getfield 28, 3) := by decide +kernel
theorem dX6_readOne_38 : decode cX6_readOne 38 = .ok (.iconst 1, 1) := by decide +kernel
theorem dX6_readOne_39 : decode cX6_readOne 39 = .ok (.iadd, 1) := by decide +kernel
theorem dX6_readOne_40 : decode cX6_readOne 40 = .ok (.putfield 28, 3) := by decide +kernel
theorem dX6_readOne_43 : decode cX6_readOne 43 = .ok (.iconst 1, 1) := by decide +kernel
theorem dX6_readOne_44 : decode cX6_readOne 44 = .ok (.ireturn, 1) := by decide +kernel
theorem dX6_readOne_45 : decode cX6_readOne 45 = .ok (.iload_n 2, 1) := by decide +kernel
theorem dX6_readOne_46 : decode cX6_readOne 46 = .ok (.bipush 40, 2) := by decide +kernel
theorem dX6_readOne_48 : decode cX6_readOne 48 = .ok (.if_icmp .eq 9, 3) := by decide +kernel
theorem dX6_readOne_51 : decode cX6_readOne 51 = .ok (.iload_n 2, 1) := by decide +kernel
theorem dX6_readOne_52 : decode cX6_readOne 52 = .ok (.bipush 45, 2) := by decide +kernel
theorem dX6_readOne_54 : decode cX6_readOne 54 = .ok (.if_icmp .ne 8, 3) := by decide +kernel
theorem dX6_readOne_57 : decode cX6_readOne 57 = .ok (.iload_n 1, 1) := by decide +kernel
theorem dX6_readOne_58 : decode cX6_readOne 58 = .ok (.iconst 5, 1) := by decide +kernel
theorem dX6_readOne_59 : decode cX6_readOne 59 = .ok (.if_icmp .lt 5, 3) := by decide +kernel
theorem dX6_readOne_62 : decode cX6_readOne 62 = .ok (.iconst 0, 1) := by decide +kernel
theorem dX6_readOne_63 : decode cX6_readOne 63 = .ok (.ireturn, 1) := by decide +kernel
theorem dX6_readOne_64 : decode cX6_readOne 64 = .ok (.aload_n 0, 1) := by decide +kernel
theorem dX6_readOne_65 : decode cX6_readOne 65 = .ok (.dup, 1) := by decide +kernel
theorem dX6_readOne_66 : decode cX6_readOne 66 = .ok (.getfield 28, 3) := by decide +kernel
theorem dX6_readOne_69 : decode cX6_readOne 69 = .ok (.iconst 1, 1) := by decide +kernel
theorem dX6_readOne_70 : decode cX6_readOne 70 = .ok (.iadd, 1) := by decide +kernel
theorem dX6_readOne_71 : decode cX6_readOne 71 = .ok (.putfield 28, 3) := by decide +kernel
theorem dX6_readOne_74 : decode cX6_readOne 74 = .ok (.iload_n 2, 1) := by decide +kernel
theorem dX6_readOne_75 : decode cX6_readOne 75 = .ok (.bipush 40, 2) := by decide +kernel
theorem dX6_readOne_77 : decode cX6_readOne 77 = .ok (.if_icmp .ne 28, 3) := by decide +kernel
theorem dX6_readOne_80 : decode cX6_readOne 80 = .ok (.aload_n 0, 1) := by decide +kernel
theorem dX6_readOne_81 : decode cX6_readOne 81 = .ok (.iload_n 1, 1) := by decide +kernel
theorem dX6_readOne_82 : decode cX6_readOne 82 = .ok (.iconst 1, 1) := by decide +kernel
theorem dX6_readOne_83 : decode cX6_readOne 83 = .ok (.iadd, 1) := by decide +kernel
theorem dX6_readOne_84 : decode cX6_readOne 84 = .ok (.invokevirtual 52, 3) := by decide +kernel
theorem dX6_readOne_87 : decode cX6_readOne 87 = .ok (.ifCond .eq 16, 3) := by decide +kernel
theorem dX6_readOne_90 : decode cX6_readOne 90 = .ok (.aload_n 0, 1) := by decide +kernel
theorem dX6_readOne_91 : decode cX6_readOne 91 = .ok (.bipush 41, 2) := by decide +kernel
theorem dX6_readOne_93 : decode cX6_readOne 93 = .ok (.invokevirtual 48, 3) := by decide +kernel
theorem dX6_readOne_96 : decode cX6_readOne 96 = .ok (.ifCond .eq 7, 3) := by decide +kernel
theorem dX6_readOne_99 : decode cX6_readOne 99 = .ok (.iconst 1, 1) := by decide +kernel
theorem dX6_readOne_100 : decode cX6_readOne 100 = .ok (.goto 4, 3) := by decide +kernel
theorem dX6_readOne_103 : decode cX6_readOne 103 = .ok (.iconst 0, 1) := by decide +kernel
theorem dX6_readOne_104 : decode cX6_readOne 104 = .ok (.ireturn, 1) := by decide +kernel
theorem dX6_readOne_105 : decode cX6_readOne 105 = .ok (.aload_n 0, 1) := by decide +kernel
theorem dX6_readOne_106 : decode cX6_readOne 106 = .ok (.iload_n 1, 1) := by decide +kernel
theorem dX6_readOne_107 : decode cX6_readOne 107 = .ok (.iconst 1, 1) := by decide +kernel
theorem dX6_readOne_108 : decode cX6_readOne 108 = .ok (.iadd, 1) := by decide +kernel
theorem dX6_readOne_109 : decode cX6_readOne 109 = .ok (.invokevirtual 78, 3) := by decide +kernel
theorem dX6_readOne_112 : decode cX6_readOne 112 = .ok (.ifCond .ne 5, 3) := by decide +kernel
theorem dX6_readOne_115 : decode cX6_readOne 115 = .ok (.iconst 0, 1) := by decide +kernel
theorem dX6_readOne_116 : decode cX6_readOne 116 = .ok (.ireturn, 1) := by decide +kernel
theorem dX6_readOne_117 : decode cX6_readOne 117 = .ok (.aload_n 0, 1) := by decide +kernel
theorem dX6_readOne_118 : decode cX6_readOne 118 = .ok (.bipush (-19), 2) := by decide +kernel
theorem dX6_readOne_120 : decode cX6_readOne 120 = .ok (.invokevirtual 65, 3) := by decide +kernel
theorem dX6_readOne_123 : decode cX6_readOne 123 = .ok (.iconst 1, 1) := by decide +kernel
theorem dX6_readOne_124 : decode cX6_readOne 124 = .ok (.ireturn, 1) := by decide +kernel
theorem dX7_init_0 : decode cX7_init 0 = .ok (.aload_n 0, 1) := by decide +kernel
theorem dX7_init_1 : decode cX7_init 1 = .ok (.invokespecial 3, 3) := by decide +kernel
theorem dX7_init_4 : decode cX7_init 4 = .ok (.aload_n 0, 1) := by decide +kernel
theorem dX7_init_5 : decode cX7_init 5 = .ok (.iconst 4, 1) := by decide +kernel
theorem dX7_init_6 : decode cX7_init 6 = .ok (.newarray .int, 2) := by decide +kernel
theorem dX7_init_8 : decode cX7_init 8 = .ok (.dup, 1) := by decide +kernel
theorem dX7_init_9 : decode cX7_init 9 = .ok (.iconst 0, 1) := by decide +kernel
theorem dX7_init_10 : decode cX7_init 10 = .ok (.iconst (-1), 1) := by decide +kernel
theorem dX7_init_11 : decode cX7_init 11 = .ok (.iastore, 1) := by decide +kernel
theorem dX7_init_12 : decode cX7_init 12 = .ok (.dup, 1) := by decide +kernel
theorem dX7_init_13 : decode cX7_init 13 = .ok (.iconst 1, 1) := by decide +kernel
theorem dX7_init_14 : decode cX7_init 14 = .ok (.iconst (-1), 1) := by decide +kernel
theorem dX7_init_15 : decode cX7_init 15 = .ok (.iastore, 1) := by decide +kernel
theorem dX7_init_16 : decode cX7_init 16 = .ok (.dup, 1) := by decide +kernel
theorem dX7_init_17 : decode cX7_init 17 = .ok (.iconst 2, 1) := by decide +kernel
theorem dX7_init_18 : decode cX7_init 18 = .ok (.iconst (-1), 1) := by decide +kernel
theorem dX7_init_19 : decode cX7_init 19 = .ok (.iastore, 1) := by decide +kernel
theorem dX7_init_20 : decode cX7_init 20 = .ok (.dup, 1) := by decide +kernel
theorem dX7_init_21 : decode cX7_init 21 = .ok (.iconst 3, 1) := by decide +kernel
theorem dX7_init_22 : decode cX7_init 22 = .ok (.iconst (-1), 1) := by decide +kernel
theorem dX7_init_23 : decode cX7_init 23 = .ok (.iastore, 1) := by decide +kernel
theorem dX7_init_24 : decode cX7_init 24 = .ok (.putfield 9, 3) := by decide +kernel
theorem dX7_init_27 : decode cX7_init 27 = .ok (.aload_n 0, 1) := by decide +kernel
theorem dX7_init_28 : decode cX7_init 28 = .ok (.iconst 4, 1) := by decide +kernel
theorem dX7_init_29 : decode cX7_init 29 = .ok (.newarray .int, 2) := by decide +kernel
theorem dX7_init_31 : decode cX7_init 31 = .ok (.putfield 15, 3) := by decide +kernel
theorem dX7_init_34 : decode cX7_init 34 = .ok (.aload_n 0, 1) := by decide +kernel
theorem dX7_init_35 : decode cX7_init 35 = .ok (.sipush 160, 3) := by decide +kernel
theorem dX7_init_38 : decode cX7_init 38 = .ok (.newarray .int, 2) := by decide +kernel
theorem dX7_init_40 : decode cX7_init 40 = .ok (.putfield 18, 3) := by decide +kernel
theorem dX7_init_43 : decode cX7_init 43 = .ok (.return_, 1) := by decide +kernel
theorem dX7_isMissing_0 : decode cX7_isMissing 0 = .ok (.aload_n 0, 1) := by decide +kernel
theorem dX7_isMissing_1 : decode cX7_isMissing 1 = .ok (.getfield 9, 3) := by decide +kernel
theorem dX7_isMissing_4 : decode cX7_isMissing 4 = .ok (.iload_n 1, 1) := by decide +kernel
theorem dX7_isMissing_5 : decode cX7_isMissing 5 = .ok (.iaload, 1) := by decide +kernel
theorem dX7_isMissing_6 : decode cX7_isMissing 6 = .ok (.iconst (-1), 1) := by decide +kernel
theorem dX7_isMissing_7 : decode cX7_isMissing 7 = .ok (.if_icmp .ne 7, 3) := by decide +kernel
theorem dX7_isMissing_10 : decode cX7_isMissing 10 = .ok (.iconst 1, 1) := by decide +kernel
theorem dX7_isMissing_11 : decode cX7_isMissing 11 = .ok (.goto 4, 3) := by decide +kernel
theorem dX7_isMissing_14 : decode cX7_isMissing 14 = .ok (.iconst 0, 1) := by decide +kernel
theorem dX7_isMissing_15 : decode cX7_isMissing 15 = .ok (.ireturn, 1) := by decide +kernel
theorem dX7_has_0 : decode cX7_has 0 = .ok (.iload_n 2, 1) := by decide +kernel
theorem dX7_has_1 : decode cX7_has 1 = .ok (.ifCond .lt 17, 3) := by decide +kernel
theorem dX7_has_4 : decode cX7_has 4 = .ok (.iload_n 2, 1) := by decide +kernel
theorem dX7_has_5 : decode cX7_has 5 = .ok (.aload_n 0, 1) := by decide +kernel
theorem dX7_has_6 : decode cX7_has 6 = .ok (.getfield 15, 3) := by decide +kernel
theorem dX7_has_9 : decode cX7_has 9 = .ok (.iload_n 1, 1) := by decide +kernel
theorem dX7_has_10 : decode cX7_has 10 = .ok (.iaload, 1) := by decide +kernel
theorem dX7_has_11 : decode cX7_has 11 = .ok (.if_icmp .ge 7, 3) := by decide +kernel
theorem dX7_has_14 : decode cX7_has 14 = .ok (.iconst 1, 1) := by decide +kernel
theorem dX7_has_15 : decode cX7_has 15 = .ok (.goto 4, 3) := by decide +kernel
theorem dX7_has_18 : decode cX7_has 18 = .ok (.iconst 0, 1) := by decide +kernel
theorem dX7_has_19 : decode cX7_has 19 = .ok (.ireturn, 1) := by decide +kernel
theorem dX7_hasRun_0 : decode cX7_hasRun 0 = .ok (.iload_n 2, 1) := by decide +kernel
theorem dX7_hasRun_1 : decode cX7_hasRun 1 = .ok (.ifCond .lt 33, 3) := by decide +kernel
theorem dX7_hasRun_4 : decode cX7_hasRun 4 = .ok (.iload_n 3, 1) := by decide +kernel
theorem dX7_hasRun_5 : decode cX7_hasRun 5 = .ok (.ifCond .lt 29, 3) := by decide +kernel
theorem dX7_hasRun_8 : decode cX7_hasRun 8 = .ok (.iload_n 2, 1) := by decide +kernel
theorem dX7_hasRun_9 : decode cX7_hasRun 9 = .ok (.aload_n 0, 1) := by decide +kernel
theorem dX7_hasRun_10 : decode cX7_hasRun 10 = .ok (.getfield 15, 3) := by decide +kernel
theorem dX7_hasRun_13 : decode cX7_hasRun 13 = .ok (.iload_n 1, 1) := by decide +kernel
theorem dX7_hasRun_14 : decode cX7_hasRun 14 = .ok (.iaload, 1) := by decide +kernel
theorem dX7_hasRun_15 : decode cX7_hasRun 15 = .ok (.if_icmp .gt 19, 3) := by decide +kernel
theorem dX7_hasRun_18 : decode cX7_hasRun 18 = .ok (.iload_n 3, 1) := by decide +kernel
theorem dX7_hasRun_19 : decode cX7_hasRun 19 = .ok (.aload_n 0, 1) := by decide +kernel
theorem dX7_hasRun_20 : decode cX7_hasRun 20 = .ok (.getfield 15, 3) := by decide +kernel
theorem dX7_hasRun_23 : decode cX7_hasRun 23 = .ok (.iload_n 1, 1) := by decide +kernel
theorem dX7_hasRun_24 : decode cX7_hasRun 24 = .ok (.iaload, 1) := by decide +kernel
theorem dX7_hasRun_25 : decode cX7_hasRun 25 = .ok (.iload_n 2, 1) := by decide +kernel
theorem dX7_hasRun_26 : decode cX7_hasRun 26 = .ok (.isub, 1) := by decide +kernel
theorem dX7_hasRun_27 : decode cX7_hasRun 27 = .ok (.if_icmp .gt 7, 3) := by decide +kernel
theorem dX7_hasRun_30 : decode cX7_hasRun 30 = .ok (.iconst 1, 1) := by decide +kernel
theorem dX7_hasRun_31 : decode cX7_hasRun 31 = .ok (.goto 4, 3) := by decide +kernel
theorem dX7_hasRun_34 : decode cX7_hasRun 34 = .ok (.iconst 0, 1) := by decide +kernel
theorem dX7_hasRun_35 : decode cX7_hasRun 35 = .ok (.ireturn, 1) := by decide +kernel
theorem dX7_itemOf_0 : decode cX7_itemOf 0 = .ok (.aload_n 0, 1) := by decide +kernel
theorem dX7_itemOf_1 : decode cX7_itemOf 1 = .ok (.iload_n 1, 1) := by decide +kernel
theorem dX7_itemOf_2 : decode cX7_itemOf 2 = .ok (.iload_n 2, 1) := by decide +kernel
theorem dX7_itemOf_3 : decode cX7_itemOf 3 = .ok (.invokevirtual 21, 3) := by decide +kernel
theorem dX7_itemOf_6 : decode cX7_itemOf 6 = .ok (.ifCond .eq 17, 3) := by decide +kernel
theorem dX7_itemOf_9 : decode cX7_itemOf 9 = .ok (.aload_n 0, 1) := by decide +kernel
theorem dX7_itemOf_10 : decode cX7_itemOf 10 = .ok (.getfield 18, 3) := by decide +kernel
theorem dX7_itemOf_13 : decode cX7_itemOf 13 = .ok (.iload_n 1, 1) := by decide +kernel
theorem dX7_itemOf_14 : decode cX7_itemOf 14 = .ok (.bipush 40, 2) := by decide +kernel
theorem dX7_itemOf_16 : decode cX7_itemOf 16 = .ok (.imul, 1) := by decide +kernel
theorem dX7_itemOf_17 : decode cX7_itemOf 17 = .ok (.iload_n 2, 1) := by decide +kernel
theorem dX7_itemOf_18 : decode cX7_itemOf 18 = .ok (.iadd, 1) := by decide +kernel
theorem dX7_itemOf_19 : decode cX7_itemOf 19 = .ok (.iaload, 1) := by decide +kernel
theorem dX7_itemOf_20 : decode cX7_itemOf 20 = .ok (.goto 4, 3) := by decide +kernel
theorem dX7_itemOf_23 : decode cX7_itemOf 23 = .ok (.iconst 0, 1) := by decide +kernel
theorem dX7_itemOf_24 : decode cX7_itemOf 24 = .ok (.ireturn, 1) := by decide +kernel
theorem dX7_layOut_0 : decode cX7_layOut 0 = .ok (.aload_n 0, 1) := by decide +kernel
theorem dX7_layOut_1 : decode cX7_layOut 1 = .ok (.getfield 9, 3) := by decide +kernel
theorem dX7_layOut_4 : decode cX7_layOut 4 = .ok (.iload_n 1, 1) := by decide +kernel
theorem dX7_layOut_5 : decode cX7_layOut 5 = .ok (.iload_n 2, 1) := by decide +kernel
theorem dX7_layOut_6 : decode cX7_layOut 6 = .ok (.iastore, 1) := by decide +kernel
theorem dX7_layOut_7 : decode cX7_layOut 7 = .ok (.aload_n 0, 1) := by decide +kernel
theorem dX7_layOut_8 : decode cX7_layOut 8 = .ok (.getfield 15, 3) := by decide +kernel
theorem dX7_layOut_11 : decode cX7_layOut 11 = .ok (.iload_n 1, 1) := by decide +kernel
theorem dX7_layOut_12 : decode cX7_layOut 12 = .ok (.iload_n 3, 1) := by decide +kernel
theorem dX7_layOut_13 : decode cX7_layOut 13 = .ok (.iastore, 1) := by decide +kernel
theorem dX7_layOut_14 : decode cX7_layOut 14 = .ok (.iconst 0, 1) := by decide +kernel
theorem dX7_layOut_15 : decode cX7_layOut 15 = .ok (.istore 4, 2) := by decide +kernel
theorem dX7_layOut_17 : decode cX7_layOut 17 = .ok (.iload 4, 2) := by decide +kernel
theorem dX7_layOut_19 : decode cX7_layOut 19 = .ok (.bipush 40, 2) := by decide +kernel
theorem dX7_layOut_21 : decode cX7_layOut 21 = .ok (.if_icmp .ge 22, 3) := by decide +kernel
theorem dX7_layOut_24 : decode cX7_layOut 24 = .ok (.aload_n 0, 1) := by decide +kernel
theorem dX7_layOut_25 : decode cX7_layOut 25 = .ok (.getfield 18, 3) := by decide +kernel
theorem dX7_layOut_28 : decode cX7_layOut 28 = .ok (.iload_n 1, 1) := by decide +kernel
theorem dX7_layOut_29 : decode cX7_layOut 29 = .ok (.bipush 40, 2) := by decide +kernel
theorem dX7_layOut_31 : decode cX7_layOut 31 = .ok (.imul, 1) := by decide +kernel
theorem dX7_layOut_32 : decode cX7_layOut 32 = .ok (.iload 4, 2) := by decide +kernel
theorem dX7_layOut_34 : decode cX7_layOut 34 = .ok (.iadd, 1) := by decide +kernel
theorem dX7_layOut_35 : decode cX7_layOut 35 = .ok (.iconst 0, 1) := by decide +kernel
theorem dX7_layOut_36 : decode cX7_layOut 36 = .ok (.iastore, 1) := by decide +kernel
theorem dX7_layOut_37 : decode cX7_layOut 37 = .ok (.iinc 4 1, 3) := by decide +kernel
theorem dX7_layOut_40 : decode cX7_layOut 40 = .ok (.goto (-23), 3) := by decide +kernel
theorem dX7_layOut_43 : decode cX7_layOut 43 = .ok (.return_, 1) := by decide +kernel
theorem dX7_put_0 : decode cX7_put 0 = .ok (.iload_n 3, 1) := by decide +kernel
theorem dX7_put_1 : decode cX7_put 1 = .ok (.istore 4, 2) := by decide +kernel
theorem dX7_put_3 : decode cX7_put 3 = .ok (.aload_n 0, 1) := by decide +kernel
theorem dX7_put_4 : decode cX7_put 4 = .ok (.getfield 9, 3) := by decide +kernel
theorem dX7_put_7 : decode cX7_put 7 = .ok (.iload_n 1, 1) := by decide +kernel
theorem dX7_put_8 : decode cX7_put 8 = .ok (.iaload, 1) := by decide +kernel
theorem dX7_put_9 : decode cX7_put 9 = .ok (.ifCond .ne 10, 3) := by decide +kernel
theorem dX7_put_12 : decode cX7_put 12 = .ok (.iload_n 3, 1) := by decide +kernel
theorem dX7_put_13 : decode cX7_put 13 = .ok (.i2b, 1) := by decide +kernel
theorem dX7_put_14 : decode cX7_put 14 = .ok (.istore 4, 2) := by decide +kernel
theorem dX7_put_16 : decode cX7_put 16 = .ok (.goto 17, 3) := by decide +kernel
theorem dX7_put_19 : decode cX7_put 19 = .ok (.aload_n 0, 1) := by decide +kernel
theorem dX7_put_20 : decode cX7_put 20 = .ok (.getfield 9, 3) := by decide +kernel
theorem dX7_put_23 : decode cX7_put 23 = .ok (.iload_n 1, 1) := by decide +kernel
theorem dX7_put_24 : decode cX7_put 24 = .ok (.iaload, 1) := by decide +kernel
theorem dX7_put_25 : decode cX7_put 25 = .ok (.iconst 1, 1) := by decide +kernel
theorem dX7_put_26 : decode cX7_put 26 = .ok (.if_icmp .ne 7, 3) := by decide +kernel
theorem dX7_put_29 : decode cX7_put 29 = .ok (.iload_n 3, 1) := by decide +kernel
theorem dX7_put_30 : decode cX7_put 30 = .ok (.i2s, 1) := by decide +kernel
theorem dX7_put_31 : decode cX7_put 31 = .ok (.istore 4, 2) := by decide +kernel
theorem dX7_put_33 : decode cX7_put 33 = .ok (.aload_n 0, 1) := by decide +kernel
theorem dX7_put_34 : decode cX7_put 34 = .ok (.getfield 18, 3) := by decide +kernel
theorem dX7_put_37 : decode cX7_put 37 = .ok (.iload_n 1, 1) := by decide +kernel
theorem dX7_put_38 : decode cX7_put 38 = .ok (.bipush 40, 2) := by decide +kernel
theorem dX7_put_40 : decode cX7_put 40 = .ok (.imul, 1) := by decide +kernel
theorem dX7_put_41 : decode cX7_put 41 = .ok (.iload_n 2, 1) := by decide +kernel
theorem dX7_put_42 : decode cX7_put 42 = .ok (.iadd, 1) := by decide +kernel
theorem dX7_put_43 : decode cX7_put 43 = .ok (.iload 4, 2) := by decide +kernel
theorem dX7_put_45 : decode cX7_put 45 = .ok (.iastore, 1) := by decide +kernel
theorem dX7_put_46 : decode cX7_put 46 = .ok (.return_, 1) := by decide +kernel
theorem dX7_refusalAsWidths_0 : decode cX7_refusalAsWidths 0 = .ok (.aload_n 0, 1) := by decide +kernel
theorem dX7_refusalAsWidths_1 : decode cX7_refusalAsWidths 1 = .ok (.iload_n 1, 1) := by decide +kernel
theorem dX7_refusalAsWidths_2 : decode cX7_refusalAsWidths 2 = .ok (.invokevirtual 25, 3) := by decide +kernel
theorem dX7_refusalAsWidths_5 : decode cX7_refusalAsWidths 5 = .ok (.ifCond .eq 6, 3) := by decide +kernel
theorem dX7_refusalAsWidths_8 : decode cX7_refusalAsWidths 8 = .ok (.bipush (-11), 2) := by decide +kernel
theorem dX7_refusalAsWidths_10 : decode cX7_refusalAsWidths 10 = .ok (.ireturn, 1) := by decide +kernel
theorem dX7_refusalAsWidths_11 : decode cX7_refusalAsWidths 11 = .ok (.aload_n 0, 1) := by decide +kernel
theorem dX7_refusalAsWidths_12 : decode cX7_refusalAsWidths 12 = .ok (.getfield 15, 3) := by decide +kernel
theorem dX7_refusalAsWidths_15 : decode cX7_refusalAsWidths 15 = .ok (.iload_n 1, 1) := by decide +kernel
theorem dX7_refusalAsWidths_16 : decode cX7_refusalAsWidths 16 = .ok (.iaload, 1) := by decide +kernel
theorem dX7_refusalAsWidths_17 : decode cX7_refusalAsWidths 17 = .ok (.iconst 1, 1) := by decide +kernel
theorem dX7_refusalAsWidths_18 : decode cX7_refusalAsWidths 18 = .ok (.bipush 8, 2) := by decide +kernel
theorem dX7_refusalAsWidths_20 : decode cX7_refusalAsWidths 20 = .ok (.invokestatic 29, 3) := by decide +kernel
theorem dX7_refusalAsWidths_23 : decode cX7_refusalAsWidths 23 = .ok (.ifCond .ne 6, 3) := by decide +kernel
theorem dX7_refusalAsWidths_26 : decode cX7_refusalAsWidths 26 = .ok (.bipush (-2), 2) := by decide +kernel
theorem dX7_refusalAsWidths_28 : decode cX7_refusalAsWidths 28 = .ok (.ireturn, 1) := by decide +kernel
theorem dX7_refusalAsWidths_29 : decode cX7_refusalAsWidths 29 = .ok (.iconst 0, 1) := by decide +kernel
theorem dX7_refusalAsWidths_30 : decode cX7_refusalAsWidths 30 = .ok (.istore_n 2, 1) := by decide +kernel
theorem dX7_refusalAsWidths_31 : decode cX7_refusalAsWidths 31 = .ok (.iload_n 2, 1) := by decide +kernel
theorem dX7_refusalAsWidths_32 : decode cX7_refusalAsWidths 32 = .ok (.aload_n 0, 1) := by decide +kernel
theorem dX7_refusalAsWidths_33 : decode cX7_refusalAsWidths 33 = .ok (.getfield 15, 3) := by decide +kernel
theorem dX7_refusalAsWidths_36 : decode cX7_refusalAsWidths 36 = .ok (.iload_n 1, 1) := by decide +kernel
theorem dX7_refusalAsWidths_37 : decode cX7_refusalAsWidths 37 = .ok (.iaload, 1) := by decide +kernel
theorem dX7_refusalAsWidths_38 : decode cX7_refusalAsWidths 38 = .ok (.if_icmp .ge 24, 3) := by decide +kernel
theorem dX7_refusalAsWidths_41 : decode cX7_refusalAsWidths 41 = .ok (.aload_n 0, 1) := by decide +kernel
theorem dX7_refusalAsWidths_42 : decode cX7_refusalAsWidths 42 = .ok (.iload_n 1, 1) := by decide +kernel
theorem dX7_refusalAsWidths_43 : decode cX7_refusalAsWidths 43 = .ok (.iload_n 2, 1) := by decide +kernel
theorem dX7_refusalAsWidths_44 : decode cX7_refusalAsWidths 44 = .ok (.invokevirtual 33, 3) := by decide +kernel
theorem dX7_refusalAsWidths_47 : decode cX7_refusalAsWidths 47 = .ok (.invokestatic 37, 3) := by decide +kernel
theorem dX7_refusalAsWidths_50 : decode cX7_refusalAsWidths 50 = .ok (.ifCond .ne 6, 3) := by decide +kernel
theorem dX7_refusalAsWidths_53 : decode cX7_refusalAsWidths 53 = .ok (.bipush (-2), 2) := by decide +kernel
theorem dX7_refusalAsWidths_55 : decode cX7_refusalAsWidths 55 = .ok (.ireturn, 1) := by decide +kernel
theorem dX7_refusalAsWidths_56 : decode cX7_refusalAsWidths 56 = .ok (.iinc 2 1, 3) := by decide +kernel
theorem dX7_refusalAsWidths_59 : decode cX7_refusalAsWidths 59 = .ok (.goto (-28), 3) := by decide +kernel
theorem dX7_refusalAsWidths_62 : decode cX7_refusalAsWidths 62 = .ok (.iconst 0, 1) := by decide +kernel
theorem dX7_refusalAsWidths_63 : decode cX7_refusalAsWidths 63 = .ok (.ireturn, 1) := by decide +kernel
theorem dX8_init_0 : decode cX8_init 0 = .ok (.aload_n 0, 1) := by decide +kernel
theorem dX8_init_1 : decode cX8_init 1 = .ok (.invokespecial 3, 3) := by decide +kernel
theorem dX8_init_4 : decode cX8_init 4 = .ok (.aload_n 0, 1) := by decide +kernel
theorem dX8_init_5 : decode cX8_init 5 = .ok (.bipush 10, 2) := by decide +kernel
theorem dX8_init_7 : decode cX8_init 7 = .ok (.newarray .int, 2) := by decide +kernel
theorem dX8_init_9 : decode cX8_init 9 = .ok (.putfield 9, 3) := by decide +kernel
theorem dX8_init_12 : decode cX8_init 12 = .ok (.aload_n 0, 1) := by decide +kernel
theorem dX8_init_13 : decode cX8_init 13 = .ok (.bipush 10, 2) := by decide +kernel
theorem dX8_init_15 : decode cX8_init 15 = .ok (.newarray .int, 2) := by decide +kernel
theorem dX8_init_17 : decode cX8_init 17 = .ok (.putfield 15, 3) := by decide +kernel
theorem dX8_init_20 : decode cX8_init 20 = .ok (.aload_n 0, 1) := by decide +kernel
theorem dX8_init_21 : decode cX8_init 21 = .ok (.bipush 10, 2) := by decide +kernel
theorem dX8_init_23 : decode cX8_init 23 = .ok (.newarray .int, 2) := by decide +kernel
theorem dX8_init_25 : decode cX8_init 25 = .ok (.putfield 18, 3) := by decide +kernel
theorem dX8_init_28 : decode cX8_init 28 = .ok (.aload_n 0, 1) := by decide +kernel
theorem dX8_init_29 : decode cX8_init 29 = .ok (.bipush 40, 2) := by decide +kernel
theorem dX8_init_31 : decode cX8_init 31 = .ok (.newarray .int, 2) := by decide +kernel
theorem dX8_init_33 : decode cX8_init 33 = .ok (.putfield 21, 3) := by decide +kernel
theorem dX8_init_36 : decode cX8_init 36 = .ok (.return_, 1) := by decide +kernel
theorem dX8_has_0 : decode cX8_has 0 = .ok (.iload_n 1, 1) := by decide +kernel
theorem dX8_has_1 : decode cX8_has 1 = .ok (.ifCond .lt 15, 3) := by decide +kernel
theorem dX8_has_4 : decode cX8_has 4 = .ok (.iload_n 1, 1) := by decide +kernel
theorem dX8_has_5 : decode cX8_has 5 = .ok (.aload_n 0, 1) := by decide +kernel
theorem dX8_has_6 : decode cX8_has 6 = .ok (.getfield 24, 3) := by decide +kernel
theorem dX8_has_9 : decode cX8_has 9 = .ok (.if_icmp .ge 7, 3) := by decide +kernel
theorem dX8_has_12 : decode cX8_has 12 = .ok (.iconst 1, 1) := by decide +kernel
theorem dX8_has_13 : decode cX8_has 13 = .ok (.goto 4, 3) := by decide +kernel
theorem dX8_has_16 : decode cX8_has 16 = .ok (.iconst 0, 1) := by decide +kernel
theorem dX8_has_17 : decode cX8_has 17 = .ok (.ireturn, 1) := by decide +kernel
theorem dX8_add_0 : decode cX8_add 0 = .ok (.iload_n 1, 1) := by decide +kernel
theorem dX8_add_1 : decode cX8_add 1 = .ok (.invokestatic 28, 3) := by decide +kernel
theorem dX8_add_4 : decode cX8_add 4 = .ok (.ifCond .eq 17, 3) := by decide +kernel
theorem dX8_add_7 : decode cX8_add 7 = .ok (.iload_n 2, 1) := by decide +kernel
theorem dX8_add_8 : decode cX8_add 8 = .ok (.invokestatic 32, 3) := by decide +kernel
theorem dX8_add_11 : decode cX8_add 11 = .ok (.ifCond .eq 10, 3) := by decide +kernel
theorem dX8_add_14 : decode cX8_add 14 = .ok (.iload_n 3, 1) := by decide +kernel
theorem dX8_add_15 : decode cX8_add 15 = .ok (.invokestatic 35, 3) := by decide +kernel
theorem dX8_add_18 : decode cX8_add 18 = .ok (.ifCond .ne 6, 3) := by decide +kernel
theorem dX8_add_21 : decode cX8_add 21 = .ok (.bipush (-2), 2) := by decide +kernel
theorem dX8_add_23 : decode cX8_add 23 = .ok (.ireturn, 1) := by decide +kernel
theorem dX8_add_24 : decode cX8_add 24 = .ok (.aload_n 0, 1) := by decide +kernel
theorem dX8_add_25 : decode cX8_add 25 = .ok (.getfield 24, 3) := by decide +kernel
theorem dX8_add_28 : decode cX8_add 28 = .ok (.bipush 10, 2) := by decide +kernel
theorem dX8_add_30 : decode cX8_add 30 = .ok (.if_icmp .lt 6, 3) := by decide +kernel
theorem dX8_add_33 : decode cX8_add 33 = .ok (.bipush (-4), 2) := by decide +kernel
theorem dX8_add_35 : decode cX8_add 35 = .ok (.ireturn, 1) := by decide +kernel
theorem dX8_add_36 : decode cX8_add 36 = .ok (.aload_n 0, 1) := by decide +kernel
theorem dX8_add_37 : decode cX8_add 37 = .ok (.getfield 9, 3) := by decide +kernel
theorem dX8_add_40 : decode cX8_add 40 = .ok (.aload_n 0, 1) := by decide +kernel
theorem dX8_add_41 : decode cX8_add 41 = .ok (.getfield 24, 3) := by decide +kernel
theorem dX8_add_44 : decode cX8_add 44 = .ok (.iload_n 1, 1) := by decide +kernel
theorem dX8_add_45 : decode cX8_add 45 = .ok (.iastore, 1) := by decide +kernel
theorem dX8_add_46 : decode cX8_add 46 = .ok (.aload_n 0, 1) := by decide +kernel
theorem dX8_add_47 : decode cX8_add 47 = .ok (.getfield 15, 3) := by decide +kernel
theorem dX8_add_50 : decode cX8_add 50 = .ok (.aload_n 0, 1) := by decide +kernel
theorem dX8_add_51 : decode cX8_add 51 = .ok (.getfield 24, 3) := by decide +kernel
theorem dX8_add_54 : decode cX8_add 54 = .ok (.iload_n 2, 1) := by decide +kernel
theorem dX8_add_55 : decode cX8_add 55 = .ok (.iastore, 1) := by decide +kernel
theorem dX8_add_56 : decode cX8_add 56 = .ok (.aload_n 0, 1) := by decide +kernel
theorem dX8_add_57 : decode cX8_add 57 = .ok (.getfield 18, 3) := by decide +kernel
theorem dX8_add_60 : decode cX8_add 60 = .ok (.aload_n 0, 1) := by decide +kernel
theorem dX8_add_61 : decode cX8_add 61 = .ok (.getfield 24, 3) := by decide +kernel
theorem dX8_add_64 : decode cX8_add 64 = .ok (.iload_n 3, 1) := by decide +kernel
theorem dX8_add_65 : decode cX8_add 65 = .ok (.iastore, 1) := by decide +kernel
theorem dX8_add_66 : decode cX8_add 66 = .ok (.aload_n 0, 1) := by decide +kernel
theorem dX8_add_67 : decode cX8_add 67 = .ok (.dup, 1) := by decide +kernel
theorem dX8_add_68 : decode cX8_add 68 = .ok (.getfield 24, 3) := by decide +kernel
theorem dX8_add_71 : decode cX8_add 71 = .ok (.iconst 1, 1) := by decide +kernel
theorem dX8_add_72 : decode cX8_add 72 = .ok (.iadd, 1) := by decide +kernel
theorem dX8_add_73 : decode cX8_add 73 = .ok (.putfield 24, 3) := by decide +kernel
theorem dX8_add_76 : decode cX8_add 76 = .ok (.aload_n 0, 1) := by decide +kernel
theorem dX8_add_77 : decode cX8_add 77 = .ok (.getfield 24, 3) := by decide +kernel
theorem dX8_add_80 : decode cX8_add 80 = .ok (.iconst 1, 1) := by decide +kernel
theorem dX8_add_81 : decode cX8_add 81 = .ok (.isub, 1) := by decide +kernel
theorem dX8_add_82 : decode cX8_add 82 = .ok (.ireturn, 1) := by decide +kernel
theorem dX8_offOf_0 : decode cX8_offOf 0 = .ok (.iload_n 1, 1) := by decide +kernel
theorem dX8_offOf_1 : decode cX8_offOf 1 = .ok (.iconst 4, 1) := by decide +kernel
theorem dX8_offOf_2 : decode cX8_offOf 2 = .ok (.imul, 1) := by decide +kernel
theorem dX8_offOf_3 : decode cX8_offOf 3 = .ok (.iload_n 2, 1) := by decide +kernel
theorem dX8_offOf_4 : decode cX8_offOf 4 = .ok (.iadd, 1) := by decide +kernel
theorem dX8_offOf_5 : decode cX8_offOf 5 = .ok (.istore_n 3, 1) := by decide +kernel
theorem dX8_offOf_6 : decode cX8_offOf 6 = .ok (.iload_n 3, 1) := by decide +kernel
theorem dX8_offOf_7 : decode cX8_offOf 7 = .ok (.ifCond .lt 18, 3) := by decide +kernel
theorem dX8_offOf_10 : decode cX8_offOf 10 = .ok (.iload_n 3, 1) := by decide +kernel
theorem dX8_offOf_11 : decode cX8_offOf 11 = .ok (.bipush 40, 2) := by decide +kernel
theorem dX8_offOf_13 : decode cX8_offOf 13 = .ok (.if_icmp .ge 12, 3) := by decide +kernel
theorem dX8_offOf_16 : decode cX8_offOf 16 = .ok (.aload_n 0, 1) := by decide +kernel
theorem dX8_offOf_17 : decode cX8_offOf 17 = .ok (.getfield 21, 3) := by decide +kernel
theorem dX8_offOf_20 : decode cX8_offOf 20 = .ok (.iload_n 3, 1) := by decide +kernel
theorem dX8_offOf_21 : decode cX8_offOf 21 = .ok (.iaload, 1) := by decide +kernel
theorem dX8_offOf_22 : decode cX8_offOf 22 = .ok (.goto 4, 3) := by decide +kernel
theorem dX8_offOf_25 : decode cX8_offOf 25 = .ok (.iconst 0, 1) := by decide +kernel
theorem dX8_offOf_26 : decode cX8_offOf 26 = .ok (.ireturn, 1) := by decide +kernel
theorem dX8_takeMenOf_0 : decode cX8_takeMenOf 0 = .ok (.iconst 0, 1) := by decide +kernel
theorem dX8_takeMenOf_1 : decode cX8_takeMenOf 1 = .ok (.istore_n 2, 1) := by decide +kernel
theorem dX8_takeMenOf_2 : decode cX8_takeMenOf 2 = .ok (.iload_n 2, 1) := by decide +kernel
theorem dX8_takeMenOf_3 : decode cX8_takeMenOf 3 = .ok (.aload_n 1, 1) := by decide +kernel
theorem dX8_takeMenOf_4 : decode cX8_takeMenOf 4 = .ok (.getfield 24, 3) := by decide +kernel
theorem dX8_takeMenOf_7 : decode cX8_takeMenOf 7 = .ok (.if_icmp .ge 70, 3) := by decide +kernel
theorem dX8_takeMenOf_10 : decode cX8_takeMenOf 10 = .ok (.iload_n 2, 1) := by decide +kernel
theorem dX8_takeMenOf_11 : decode cX8_takeMenOf 11 = .ok (.bipush 10, 2) := by decide +kernel
theorem dX8_takeMenOf_13 : decode cX8_takeMenOf 13 = .ok (.if_icmp .ge 64, 3) := by decide +kernel
theorem dX8_takeMenOf_16 : decode cX8_takeMenOf 16 = .ok (.aload_n 0, 1) := by decide +kernel
theorem dX8_takeMenOf_17 : decode cX8_takeMenOf 17 = .ok (.getfield 15, 3) := by decide +kernel
theorem dX8_takeMenOf_20 : decode cX8_takeMenOf 20 = .ok (.iload_n 2, 1) := by decide +kernel
theorem dX8_takeMenOf_21 : decode cX8_takeMenOf 21 = .ok (.aload_n 1, 1) := by decide +kernel
theorem dX8_takeMenOf_22 : decode cX8_takeMenOf 22 = .ok (.getfield 15, 3) := by decide +kernel
theorem dX8_takeMenOf_25 : decode cX8_takeMenOf 25 = .ok (.iload_n 2, 1) := by decide +kernel
theorem dX8_takeMenOf_26 : decode cX8_takeMenOf 26 = .ok (.iaload, 1) := by decide +kernel
theorem dX8_takeMenOf_27 : decode cX8_takeMenOf 27 = .ok (.iastore, 1) := by decide +kernel
theorem dX8_takeMenOf_28 : decode cX8_takeMenOf 28 = .ok (.aload_n 0, 1) := by decide +kernel
theorem dX8_takeMenOf_29 : decode cX8_takeMenOf 29 = .ok (.getfield 18, 3) := by decide +kernel
theorem dX8_takeMenOf_32 : decode cX8_takeMenOf 32 = .ok (.iload_n 2, 1) := by decide +kernel
theorem dX8_takeMenOf_33 : decode cX8_takeMenOf 33 = .ok (.aload_n 1, 1) := by decide +kernel
theorem dX8_takeMenOf_34 : decode cX8_takeMenOf 34 = .ok (.getfield 18, 3) := by decide +kernel
theorem dX8_takeMenOf_37 : decode cX8_takeMenOf 37 = .ok (.iload_n 2, 1) := by decide +kernel
theorem dX8_takeMenOf_38 : decode cX8_takeMenOf 38 = .ok (.iaload, 1) := by decide +kernel
theorem dX8_takeMenOf_39 : decode cX8_takeMenOf 39 = .ok (.iastore, 1) := by decide +kernel
theorem dX8_takeMenOf_40 : decode cX8_takeMenOf 40 = .ok (.iload_n 2, 1) := by decide +kernel
theorem dX8_takeMenOf_41 : decode cX8_takeMenOf 41 = .ok (.iconst 4, 1) := by decide +kernel
theorem dX8_takeMenOf_42 : decode cX8_takeMenOf 42 = .ok (.imul, 1) := by decide +kernel
theorem dX8_takeMenOf_43 : decode cX8_takeMenOf 43 = .ok (.istore_n 3, 1) := by decide +kernel
theorem dX8_takeMenOf_44 : decode cX8_takeMenOf 44 = .ok (.iload_n 3, 1) := by decide +kernel
theorem dX8_takeMenOf_45 : decode cX8_takeMenOf 45 = .ok (.iload_n 2, 1) := by decide +kernel
theorem dX8_takeMenOf_46 : decode cX8_takeMenOf 46 = .ok (.iconst 4, 1) := by decide +kernel
theorem dX8_takeMenOf_47 : decode cX8_takeMenOf 47 = .ok (.imul, 1) := by decide +kernel
theorem dX8_takeMenOf_48 : decode cX8_takeMenOf 48 = .ok (.iconst 4, 1) := by decide +kernel
theorem dX8_takeMenOf_49 : decode cX8_takeMenOf 49 = .ok (.iadd, 1) := by decide +kernel
theorem dX8_takeMenOf_50 : decode cX8_takeMenOf 50 = .ok (.if_icmp .ge 21, 3) := by decide +kernel
theorem dX8_takeMenOf_53 : decode cX8_takeMenOf 53 = .ok (.aload_n 0, 1) := by decide +kernel
theorem dX8_takeMenOf_54 : decode cX8_takeMenOf 54 = .ok (.getfield 21, 3) := by decide +kernel
theorem dX8_takeMenOf_57 : decode cX8_takeMenOf 57 = .ok (.iload_n 3, 1) := by decide +kernel
theorem dX8_takeMenOf_58 : decode cX8_takeMenOf 58 = .ok (.aload_n 1, 1) := by decide +kernel
theorem dX8_takeMenOf_59 : decode cX8_takeMenOf 59 = .ok (.getfield 21, 3) := by decide +kernel
theorem dX8_takeMenOf_62 : decode cX8_takeMenOf 62 = .ok (.iload_n 3, 1) := by decide +kernel
theorem dX8_takeMenOf_63 : decode cX8_takeMenOf 63 = .ok (.iaload, 1) := by decide +kernel
theorem dX8_takeMenOf_64 : decode cX8_takeMenOf 64 = .ok (.iastore, 1) := by decide +kernel
theorem dX8_takeMenOf_65 : decode cX8_takeMenOf 65 = .ok (.iinc 3 1, 3) := by decide +kernel
theorem dX8_takeMenOf_68 : decode cX8_takeMenOf 68 = .ok (.goto (-24), 3) := by decide +kernel
theorem dX8_takeMenOf_71 : decode cX8_takeMenOf 71 = .ok (.iinc 2 1, 3) := by decide +kernel
theorem dX8_takeMenOf_74 : decode cX8_takeMenOf 74 = .ok (.goto (-72), 3) := by decide +kernel
theorem dX8_takeMenOf_77 : decode cX8_takeMenOf 77 = .ok (.return_, 1) := by decide +kernel
theorem dX9_init_0 : decode cX9_init 0 = .ok (.aload_n 0, 1) := by decide +kernel
theorem dX9_init_1 : decode cX9_init 1 = .ok (.invokespecial 3, 3) := by decide +kernel
theorem dX9_init_4 : decode cX9_init 4 = .ok (.aload_n 0, 1) := by decide +kernel
theorem dX9_init_5 : decode cX9_init 5 = .ok (.sipush 160, 3) := by decide +kernel
theorem dX9_init_8 : decode cX9_init 8 = .ok (.newarray .int, 2) := by decide +kernel
theorem dX9_init_10 : decode cX9_init 10 = .ok (.putfield 9, 3) := by decide +kernel
theorem dX9_init_13 : decode cX9_init 13 = .ok (.aload_n 0, 1) := by decide +kernel
theorem dX9_init_14 : decode cX9_init 14 = .ok (.sipush 161, 3) := by decide +kernel
theorem dX9_init_17 : decode cX9_init 17 = .ok (.newarray .int, 2) := by decide +kernel
theorem dX9_init_19 : decode cX9_init 19 = .ok (.putfield 15, 3) := by decide +kernel
theorem dX9_init_22 : decode cX9_init 22 = .ok (.aload_n 0, 1) := by decide +kernel
theorem dX9_init_23 : decode cX9_init 23 = .ok (.sipush 161, 3) := by decide +kernel
theorem dX9_init_26 : decode cX9_init 26 = .ok (.newarray .int, 2) := by decide +kernel
theorem dX9_init_28 : decode cX9_init 28 = .ok (.putfield 18, 3) := by decide +kernel
theorem dX9_init_31 : decode cX9_init 31 = .ok (.aload_n 0, 1) := by decide +kernel
theorem dX9_init_32 : decode cX9_init 32 = .ok (.sipush 161, 3) := by decide +kernel
theorem dX9_init_35 : decode cX9_init 35 = .ok (.newarray .int, 2) := by decide +kernel
theorem dX9_init_37 : decode cX9_init 37 = .ok (.putfield 21, 3) := by decide +kernel
theorem dX9_init_40 : decode cX9_init 40 = .ok (.return_, 1) := by decide +kernel
theorem dX9_put_0 : decode cX9_put 0 = .ok (.aload_n 0, 1) := by decide +kernel
theorem dX9_put_1 : decode cX9_put 1 = .ok (.getfield 24, 3) := by decide +kernel
theorem dX9_put_4 : decode cX9_put 4 = .ok (.sipush 160, 3) := by decide +kernel
theorem dX9_put_7 : decode cX9_put 7 = .ok (.if_icmp .ge 23, 3) := by decide +kernel
theorem dX9_put_10 : decode cX9_put 10 = .ok (.aload_n 0, 1) := by decide +kernel
theorem dX9_put_11 : decode cX9_put 11 = .ok (.getfield 9, 3) := by decide +kernel
theorem dX9_put_14 : decode cX9_put 14 = .ok (.aload_n 0, 1) := by decide +kernel
theorem dX9_put_15 : decode cX9_put 15 = .ok (.getfield 24, 3) := by decide +kernel
theorem dX9_put_18 : decode cX9_put 18 = .ok (.iload_n 1, 1) := by decide +kernel
theorem dX9_put_19 : decode cX9_put 19 = .ok (.iastore, 1) := by decide +kernel
theorem dX9_put_20 : decode cX9_put 20 = .ok (.aload_n 0, 1) := by decide +kernel
theorem dX9_put_21 : decode cX9_put 21 = .ok (.dup, 1) := by decide +kernel
theorem dX9_put_22 : decode cX9_put 22 = .ok (.getfield 24, 3) := by decide +kernel
theorem dX9_put_25 : decode cX9_put 25 = .ok (.iconst 1, 1) := by decide +kernel
theorem dX9_put_26 : decode cX9_put 26 = .ok (.iadd, 1) := by decide +kernel
theorem dX9_put_27 : decode cX9_put 27 = .ok (.putfield 24, 3) := by decide +kernel
theorem dX9_put_30 : decode cX9_put 30 = .ok (.return_, 1) := by decide +kernel
theorem dX9_byteAt_0 : decode cX9_byteAt 0 = .ok (.iload_n 1, 1) := by decide +kernel
theorem dX9_byteAt_1 : decode cX9_byteAt 1 = .ok (.ifCond .lt 20, 3) := by decide +kernel
theorem dX9_byteAt_4 : decode cX9_byteAt 4 = .ok (.iload_n 1, 1) := by decide +kernel
theorem dX9_byteAt_5 : decode cX9_byteAt 5 = .ok (.aload_n 0, 1) := by decide +kernel
theorem dX9_byteAt_6 : decode cX9_byteAt 6 = .ok (.getfield 24, 3) := by decide +kernel
theorem dX9_byteAt_9 : decode cX9_byteAt 9 = .ok (.if_icmp .ge 12, 3) := by decide +kernel
theorem dX9_byteAt_12 : decode cX9_byteAt 12 = .ok (.aload_n 0, 1) := by decide +kernel
theorem dX9_byteAt_13 : decode cX9_byteAt 13 = .ok (.getfield 9, 3) := by decide +kernel
theorem dX9_byteAt_16 : decode cX9_byteAt 16 = .ok (.iload_n 1, 1) := by decide +kernel
theorem dX9_byteAt_17 : decode cX9_byteAt 17 = .ok (.iaload, 1) := by decide +kernel
theorem dX9_byteAt_18 : decode cX9_byteAt 18 = .ok (.goto 4, 3) := by decide +kernel
theorem dX9_byteAt_21 : decode cX9_byteAt 21 = .ok (.iconst (-1), 1) := by decide +kernel
theorem dX9_byteAt_22 : decode cX9_byteAt 22 = .ok (.ireturn, 1) := by decide +kernel
theorem dX9_cut_0 : decode cX9_cut 0 = .ok (.aload_n 0, 1) := by decide +kernel
theorem dX9_cut_1 : decode cX9_cut 1 = .ok (.iconst 0, 1) := by decide +kernel
theorem dX9_cut_2 : decode cX9_cut 2 = .ok (.putfield 28, 3) := by decide +kernel
theorem dX9_cut_5 : decode cX9_cut 5 = .ok (.iconst 0, 1) := by decide +kernel
theorem dX9_cut_6 : decode cX9_cut 6 = .ok (.istore_n 1, 1) := by decide +kernel
theorem dX9_cut_7 : decode cX9_cut 7 = .ok (.iconst 0, 1) := by decide +kernel
theorem dX9_cut_8 : decode cX9_cut 8 = .ok (.istore_n 2, 1) := by decide +kernel
theorem dX9_cut_9 : decode cX9_cut 9 = .ok (.iload_n 2, 1) := by decide +kernel
theorem dX9_cut_10 : decode cX9_cut 10 = .ok (.sipush 160, 3) := by decide +kernel
theorem dX9_cut_13 : decode cX9_cut 13 = .ok (.if_icmp .ge 95, 3) := by decide +kernel
theorem dX9_cut_16 : decode cX9_cut 16 = .ok (.iload_n 1, 1) := by decide +kernel
theorem dX9_cut_17 : decode cX9_cut 17 = .ok (.aload_n 0, 1) := by decide +kernel
theorem dX9_cut_18 : decode cX9_cut 18 = .ok (.getfield 24, 3) := by decide +kernel
theorem dX9_cut_21 : decode cX9_cut 21 = .ok (.if_icmp .ge 87, 3) := by decide +kernel
theorem dX9_cut_24 : decode cX9_cut 24 = .ok (.aload_n 0, 1) := by decide +kernel
theorem dX9_cut_25 : decode cX9_cut 25 = .ok (.iload_n 1, 1) := by decide +kernel
theorem dX9_cut_26 : decode cX9_cut 26 = .ok (.invokevirtual 31, 3) := by decide +kernel
theorem dX9_cut_29 : decode cX9_cut 29 = .ok (.istore_n 3, 1) := by decide +kernel
theorem dX9_cut_30 : decode cX9_cut 30 = .ok (.iload_n 3, 1) := by decide +kernel
theorem dX9_cut_31 : decode cX9_cut 31 = .ok (.bipush 32, 2) := by decide +kernel
theorem dX9_cut_33 : decode cX9_cut 33 = .ok (.if_icmp .eq 9, 3) := by decide +kernel
theorem dX9_cut_36 : decode cX9_cut 36 = .ok (.iload_n 3, 1) := by decide +kernel
theorem dX9_cut_37 : decode cX9_cut 37 = .ok (.bipush 10, 2) := by decide +kernel
theorem dX9_cut_39 : decode cX9_cut 39 = .ok (.if_icmp .ne 9, 3) := by decide +kernel
theorem dX9_cut_42 : decode cX9_cut 42 = .ok (.iinc 1 1, 3) := by decide +kernel
theorem dX9_cut_45 : decode cX9_cut 45 = .ok (.goto 57, 3) := by decide +kernel
theorem dX9_cut_48 : decode cX9_cut 48 = .ok (.iload_n 3, 1) := by decide +kernel
theorem dX9_cut_49 : decode cX9_cut 49 = .ok (.invokestatic 35, 3) := by decide +kernel
theorem dX9_cut_52 : decode cX9_cut 52 = .ok (.ifCond .eq 12, 3) := by decide +kernel
theorem dX9_cut_55 : decode cX9_cut 55 = .ok (.aload_n 0, 1) := by decide +kernel
theorem dX9_cut_56 : decode cX9_cut 56 = .ok (.iload_n 1, 1) := by decide +kernel
theorem dX9_cut_57 : decode cX9_cut 57 = .ok (.invokevirtual 39, 3) := by decide +kernel
theorem dX9_cut_60 : decode cX9_cut 60 = .ok (.istore_n 1, 1) := by decide +kernel
theorem dX9_cut_61 : decode cX9_cut 61 = .ok (.goto 41, 3) := by decide +kernel
theorem dX9_cut_64 : decode cX9_cut 64 = .ok (.iload_n 3, 1) := by decide +kernel
theorem dX9_cut_65 : decode cX9_cut 65 = .ok (.invokestatic 42, 3) := by decide +kernel
theorem dX9_cut_68 : decode cX9_cut 68 = .ok (.ifCond .eq 12, 3) := by decide +kernel
theorem dX9_cut_71 : decode cX9_cut 71 = .ok (.aload_n 0, 1) := by decide +kernel
theorem dX9_cut_72 : decode cX9_cut 72 = .ok (.iload_n 1, 1) := by decide +kernel
theorem dX9_cut_73 : decode cX9_cut 73 = .ok (.invokevirtual 45, 3) := by decide +kernel
theorem dX9_cut_76 : decode cX9_cut 76 = .ok (.istore_n 1, 1) := by decide +kernel
theorem dX9_cut_77 : decode cX9_cut 77 = .ok (.goto 25, 3) := by decide +kernel
theorem dX9_cut_80 : decode cX9_cut 80 = .ok (.aload_n 0, 1) := by decide +kernel
theorem dX9_cut_81 : decode cX9_cut 81 = .ok (.iload_n 3, 1) := by decide +kernel
theorem dX9_cut_82 : decode cX9_cut 82 = .ok (.invokestatic 48, 3) := by decide +kernel
theorem dX9_cut_85 : decode cX9_cut 85 = .ok (.ifCond .eq 7, 3) := by decide +kernel
theorem dX9_cut_88 : decode cX9_cut 88 = .ok (.iload_n 3, 1) := by decide +kernel
theorem dX9_cut_89 : decode cX9_cut 89 = .ok (.goto 5, 3) := by decide +kernel
theorem dX9_cut_92 : decode cX9_cut 92 = .ok (.bipush (-2), 2) := by decide +kernel
theorem dX9_cut_94 : decode cX9_cut 94 = .ok (.iconst 0, 1) := by decide +kernel
theorem dX9_cut_95 : decode cX9_cut 95 = .ok (.iload_n 1, 1) := by decide +kernel
theorem dX9_cut_96 : decode cX9_cut 96 = .ok (.invokevirtual 51, 3) := by decide +kernel
theorem dX9_cut_99 : decode cX9_cut 99 = .ok (.iinc 1 1, 3) := by decide +kernel
theorem dX9_cut_102 : decode cX9_cut 102 = .ok (.iinc 2 1, 3) := by decide +kernel
theorem dX9_cut_105 : decode cX9_cut 105 = .ok (.goto (-96), 3) := by decide +kernel
theorem dX9_cut_108 : decode cX9_cut 108 = .ok (.aload_n 0, 1) := by decide +kernel
theorem dX9_cut_109 : decode cX9_cut 109 = .ok (.iconst (-1), 1) := by decide +kernel
theorem dX9_cut_110 : decode cX9_cut 110 = .ok (.iconst 0, 1) := by decide +kernel
theorem dX9_cut_111 : decode cX9_cut 111 = .ok (.aload_n 0, 1) := by decide +kernel
theorem dX9_cut_112 : decode cX9_cut 112 = .ok (.getfield 24, 3) := by decide +kernel
theorem dX9_cut_115 : decode cX9_cut 115 = .ok (.invokevirtual 51, 3) := by decide +kernel
theorem dX9_cut_118 : decode cX9_cut 118 = .ok (.return_, 1) := by decide +kernel
theorem dX9_note_0 : decode cX9_note 0 = .ok (.aload_n 0, 1) := by decide +kernel
theorem dX9_note_1 : decode cX9_note 1 = .ok (.getfield 28, 3) := by decide +kernel
theorem dX9_note_4 : decode cX9_note 4 = .ok (.sipush 160, 3) := by decide +kernel
theorem dX9_note_7 : decode cX9_note 7 = .ok (.if_icmp .gt 43, 3) := by decide +kernel
theorem dX9_note_10 : decode cX9_note 10 = .ok (.aload_n 0, 1) := by decide +kernel
theorem dX9_note_11 : decode cX9_note 11 = .ok (.getfield 15, 3) := by decide +kernel
theorem dX9_note_14 : decode cX9_note 14 = .ok (.aload_n 0, 1) := by decide +kernel
theorem dX9_note_15 : decode cX9_note 15 = .ok (.getfield 28, 3) := by decide +kernel
theorem dX9_note_18 : decode cX9_note 18 = .ok (.iload_n 1, 1) := by decide +kernel
theorem dX9_note_19 : decode cX9_note 19 = .ok (.iastore, 1) := by decide +kernel
theorem dX9_note_20 : decode cX9_note 20 = .ok (.aload_n 0, 1) := by decide +kernel
theorem dX9_note_21 : decode cX9_note 21 = .ok (.getfield 18, 3) := by decide +kernel
theorem dX9_note_24 : decode cX9_note 24 = .ok (.aload_n 0, 1) := by decide +kernel
theorem dX9_note_25 : decode cX9_note 25 = .ok (.getfield 28, 3) := by decide +kernel
theorem dX9_note_28 : decode cX9_note 28 = .ok (.iload_n 2, 1) := by decide +kernel
theorem dX9_note_29 : decode cX9_note 29 = .ok (.iastore, 1) := by decide +kernel
theorem dX9_note_30 : decode cX9_note 30 = .ok (.aload_n 0, 1) := by decide +kernel
theorem dX9_note_31 : decode cX9_note 31 = .ok (.getfield 21, 3) := by decide +kernel
theorem dX9_note_34 : decode cX9_note 34 = .ok (.aload_n 0, 1) := by decide +kernel
theorem dX9_note_35 : decode cX9_note 35 = .ok (.getfield 28, 3) := by decide +kernel
theorem dX9_note_38 : decode cX9_note 38 = .ok (.iload_n 3, 1) := by decide +kernel
theorem dX9_note_39 : decode cX9_note 39 = .ok (.iastore, 1) := by decide +kernel
theorem dX9_note_40 : decode cX9_note 40 = .ok (.aload_n 0, 1) := by decide +kernel
theorem dX9_note_41 : decode cX9_note 41 = .ok (.dup, 1) := by decide +kernel
theorem dX9_note_42 : decode cX9_note 42 = .ok (.getfield 28, 3) := by decide +kernel
theorem dX9_note_45 : decode cX9_note 45 = .ok (.iconst 1, 1) := by decide +kernel
theorem dX9_note_46 : decode cX9_note 46 = .ok (.iadd, 1) := by decide +kernel
theorem dX9_note_47 : decode cX9_note 47 = .ok (.putfield 28, 3) := by decide +kernel
theorem dX9_note_50 : decode cX9_note 50 = .ok (.return_, 1) := by decide +kernel
theorem dX9_cutWord_0 : decode cX9_cutWord 0 = .ok (.iload_n 1, 1) := by decide +kernel
theorem dX9_cutWord_1 : decode cX9_cutWord 1 = .ok (.iconst 1, 1) := by decide +kernel
theorem dX9_cutWord_2 : decode cX9_cutWord 2 = .ok (.iadd, 1) := by decide +kernel
theorem dX9_cutWord_3 : decode cX9_cutWord 3 = .ok (.istore_n 2, 1) := by decide +kernel
theorem dX9_cutWord_4 : decode cX9_cutWord 4 = .ok (.iload_n 2, 1) := by decide +kernel
theorem dX9_cutWord_5 : decode cX9_cutWord 5 = .ok (.aload_n 0, 1) := by decide +kernel
theorem dX9_cutWord_6 : decode cX9_cutWord 6 = .ok (.getfield 24, 3) := by decide +kernel
theorem dX9_cutWord_9 : decode cX9_cutWord 9 = .ok (.if_icmp .ge 21, 3) := by decide +kernel
theorem dX9_cutWord_12 : decode cX9_cutWord 12 = .ok (.aload_n 0, 1) := by decide +kernel
theorem dX9_cutWord_13 : decode cX9_cutWord 13 = .ok (.getfield 9, 3) := by decide +kernel
theorem dX9_cutWord_16 : decode cX9_cutWord 16 = .ok (.iload_n 2, 1) := by decide +kernel
theorem dX9_cutWord_17 : decode cX9_cutWord 17 = .ok (.iaload, 1) := by decide +kernel
theorem dX9_cutWord_18 : decode cX9_cutWord 18 = .ok (.invokestatic 35, 3) := by decide +kernel
theorem dX9_cutWord_21 : decode cX9_cutWord 21 = .ok (.ifCond .eq 9, 3) := by decide +kernel
theorem dX9_cutWord_24 : decode cX9_cutWord 24 = .ok (.iinc 2 1, 3) := by decide +kernel
theorem dX9_cutWord_27 : decode cX9_cutWord 27 = .ok (.goto (-23), 3) := by decide +kernel
theorem dX9_cutWord_30 : decode cX9_cutWord 30 = .ok (.aload_n 0, 1) := by decide +kernel
theorem dX9_cutWord_31 : decode cX9_cutWord 31 = .ok (.iload_n 1, 1) := by decide +kernel
theorem dX9_cutWord_32 : decode cX9_cutWord 32 = .ok (.iload_n 2, 1) := by decide +kernel
theorem dX9_cutWord_33 : decode cX9_cutWord 33 = .ok (.iload_n 1, 1) := by decide +kernel
theorem dX9_cutWord_34 : decode cX9_cutWord 34 = .ok (.isub, 1) := by decide +kernel
theorem dX9_cutWord_35 : decode cX9_cutWord 35 = .ok (.invokevirtual 55, 3) := by decide +kernel
theorem dX9_cutWord_38 : decode cX9_cutWord 38 = .ok (.istore_n 3, 1) := by decide +kernel
theorem dX9_cutWord_39 : decode cX9_cutWord 39 = .ok (.iload_n 3, 1) := by decide +kernel
theorem dX9_cutWord_40 : decode cX9_cutWord 40 = .ok (.iconst (-1), 1) := by decide +kernel
theorem dX9_cutWord_41 : decode cX9_cutWord 41 = .ok (.if_icmp .ne 14, 3) := by decide +kernel
theorem dX9_cutWord_44 : decode cX9_cutWord 44 = .ok (.aload_n 0, 1) := by decide +kernel
theorem dX9_cutWord_45 : decode cX9_cutWord 45 = .ok (.bipush (-2), 2) := by decide +kernel
theorem dX9_cutWord_47 : decode cX9_cutWord 47 = .ok (.iconst 0, 1) := by decide +kernel
theorem dX9_cutWord_48 : decode cX9_cutWord 48 = .ok (.iload_n 1, 1) := by decide +kernel
theorem dX9_cutWord_49 : decode cX9_cutWord 49 = .ok (.invokevirtual 51, 3) := by decide +kernel
theorem dX9_cutWord_52 : decode cX9_cutWord 52 = .ok (.goto 33, 3) := by decide +kernel
theorem dX9_cutWord_55 : decode cX9_cutWord 55 = .ok (.iload_n 3, 1) := by decide +kernel
theorem dX9_cutWord_56 : decode cX9_cutWord 56 = .ok (.bipush 6, 2) := by decide +kernel
theorem dX9_cutWord_58 : decode cX9_cutWord 58 = .ok (.if_icmp .ge 16, 3) := by decide +kernel
theorem dX9_cutWord_61 : decode cX9_cutWord 61 = .ok (.aload_n 0, 1) := by decide +kernel
theorem dX9_cutWord_62 : decode cX9_cutWord 62 = .ok (.bipush (-4), 2) := by decide +kernel
theorem dX9_cutWord_64 : decode cX9_cutWord 64 = .ok (.iconst (-1), 1) := by decide +kernel
theorem dX9_cutWord_65 : decode cX9_cutWord 65 = .ok (.iload_n 3, 1) := by decide +kernel
theorem dX9_cutWord_66 : decode cX9_cutWord 66 = .ok (.isub, 1) := by decide +kernel
theorem dX9_cutWord_67 : decode cX9_cutWord 67 = .ok (.iload_n 1, 1) := by decide +kernel
theorem dX9_cutWord_68 : decode cX9_cutWord 68 = .ok (.invokevirtual 51, 3) := by decide +kernel
theorem dX9_cutWord_71 : decode cX9_cutWord 71 = .ok (.goto 14, 3) := by decide +kernel
theorem dX9_cutWord_74 : decode cX9_cutWord 74 = .ok (.aload_n 0, 1) := by decide +kernel
theorem dX9_cutWord_75 : decode cX9_cutWord 75 = .ok (.sipush 256, 3) := by decide +kernel
theorem dX9_cutWord_78 : decode cX9_cutWord 78 = .ok (.iload_n 3, 1) := by decide +kernel
theorem dX9_cutWord_79 : decode cX9_cutWord 79 = .ok (.iadd, 1) := by decide +kernel
theorem dX9_cutWord_80 : decode cX9_cutWord 80 = .ok (.iconst 0, 1) := by decide +kernel
theorem dX9_cutWord_81 : decode cX9_cutWord 81 = .ok (.iload_n 1, 1) := by decide +kernel
theorem dX9_cutWord_82 : decode cX9_cutWord 82 = .ok (.invokevirtual 51, 3) := by decide +kernel
theorem dX9_cutWord_85 : decode cX9_cutWord 85 = .ok (.iload_n 2, 1) := by decide +kernel
theorem dX9_cutWord_86 : decode cX9_cutWord 86 = .ok (.ireturn, 1) := by decide +kernel
theorem dX9_wordAmong_0 : decode cX9_wordAmong 0 = .ok (.iload_n 2, 1) := by decide +kernel
theorem dX9_wordAmong_1 : decode cX9_wordAmong 1 = .ok (.bipush 6, 2) := by decide +kernel
theorem dX9_wordAmong_3 : decode cX9_wordAmong 3 = .ok (.if_icmp .lt 5, 3) := by decide +kernel
theorem dX9_wordAmong_6 : decode cX9_wordAmong 6 = .ok (.iconst (-1), 1) := by decide +kernel
theorem dX9_wordAmong_7 : decode cX9_wordAmong 7 = .ok (.ireturn, 1) := by decide +kernel
theorem dX9_wordAmong_8 : decode cX9_wordAmong 8 = .ok (.iconst 0, 1) := by decide +kernel
theorem dX9_wordAmong_9 : decode cX9_wordAmong 9 = .ok (.istore_n 3, 1) := by decide +kernel
theorem dX9_wordAmong_10 : decode cX9_wordAmong 10 = .ok (.iload_n 3, 1) := by decide +kernel
theorem dX9_wordAmong_11 : decode cX9_wordAmong 11 = .ok (.bipush 12, 2) := by decide +kernel
theorem dX9_wordAmong_13 : decode cX9_wordAmong 13 = .ok (.if_icmp .ge 71, 3) := by decide +kernel
theorem dX9_wordAmong_16 : decode cX9_wordAmong 16 = .ok (.iconst 0, 1) := by decide +kernel
theorem dX9_wordAmong_17 : decode cX9_wordAmong 17 = .ok (.istore 4, 2) := by decide +kernel
theorem dX9_wordAmong_19 : decode cX9_wordAmong 19 = .ok (.iload 4, 2) := by decide +kernel
theorem dX9_wordAmong_21 : decode cX9_wordAmong 21 = .ok (.iload_n 2, 1) := by decide +kernel
theorem dX9_wordAmong_22 : decode cX9_wordAmong 22 = .ok (.if_icmp .ge 32, 3) := by decide +kernel
theorem dX9_wordAmong_25 : decode cX9_wordAmong 25 = .ok (.ldc 59, 2) := by decide +kernel
theorem dX9_wordAmong_27 : decode cX9_wordAmong 27 = .ok (.iload_n 3, 1) := by decide +kernel
theorem dX9_wordAmong_28 : decode cX9_wordAmong 28 = .ok (.bipush 6, 2) := by decide +kernel
theorem dX9_wordAmong_30 : decode cX9_wordAmong 30 = .ok (.imul, 1) := by decide +kernel
theorem dX9_wordAmong_31 : decode cX9_wordAmong 31 = .ok (.iload 4, 2) := by decide +kernel
theorem dX9_wordAmong_33 : decode cX9_wordAmong 33 = .ok (.iadd, 1) := by decide +kernel
theorem dX9_wordAmong_34 : decode cX9_wordAmong 34 = .ok (.invokevirtual 61, 3) := by decide +kernel
theorem dX9_wordAmong_37 : decode cX9_wordAmong 37 = .ok (.aload_n 0, 1) := by decide +kernel
theorem dX9_wordAmong_38 : decode cX9_wordAmong 38 = .ok (.iload_n 1, 1) := by decide +kernel
theorem dX9_wordAmong_39 : decode cX9_wordAmong 39 = .ok (.iload 4, 2) := by decide +kernel
theorem dX9_wordAmong_41 : decode cX9_wordAmong 41 = .ok (.iadd, 1) := by decide +kernel
theorem dX9_wordAmong_42 : decode cX9_wordAmong 42 = .ok (.invokevirtual 31, 3) := by decide +kernel
theorem dX9_wordAmong_45 : decode cX9_wordAmong 45 = .ok (.if_icmp .ne 9, 3) := by decide +kernel
theorem dX9_wordAmong_48 : decode cX9_wordAmong 48 = .ok (.iinc 4 1, 3) := by decide +kernel
theorem dX9_wordAmong_51 : decode cX9_wordAmong 51 = .ok (.goto (-32), 3) := by decide +kernel
theorem dX9_wordAmong_54 : decode cX9_wordAmong 54 = .ok (.iload 4, 2) := by decide +kernel
theorem dX9_wordAmong_56 : decode cX9_wordAmong 56 = .ok (.iload_n 2, 1) := by decide +kernel
theorem dX9_wordAmong_57 : decode cX9_wordAmong 57 = .ok (.if_icmp .ne 21, 3) := by decide +kernel
theorem dX9_wordAmong_60 : decode cX9_wordAmong 60 = .ok (.ldc 59, 2) := by decide +kernel
theorem dX9_wordAmong_62 : decode cX9_wordAmong 62 = .ok (.iload_n 3, 1) := by decide +kernel
theorem dX9_wordAmong_63 : decode cX9_wordAmong 63 = .ok (.bipush 6, 2) := by decide +kernel
theorem dX9_wordAmong_65 : decode cX9_wordAmong 65 = .ok (.imul, 1) := by decide +kernel
theorem dX9_wordAmong_66 : decode cX9_wordAmong 66 = .ok (.iload_n 2, 1) := by decide +kernel
theorem dX9_wordAmong_67 : decode cX9_wordAmong 67 = .ok (.iadd, 1) := by decide +kernel
theorem dX9_wordAmong_68 : decode cX9_wordAmong 68 = .ok (.invokevirtual 61, 3) := by decide +kernel
theorem dX9_wordAmong_71 : decode cX9_wordAmong 71 = .ok (.bipush 32, 2) := by decide +kernel
theorem dX9_wordAmong_73 : decode cX9_wordAmong 73 = .ok (.if_icmp .ne 5, 3) := by decide +kernel
theorem dX9_wordAmong_76 : decode cX9_wordAmong 76 = .ok (.iload_n 3, 1) := by decide +kernel
theorem dX9_wordAmong_77 : decode cX9_wordAmong 77 = .ok (.ireturn, 1) := by decide +kernel
theorem dX9_wordAmong_78 : decode cX9_wordAmong 78 = .ok (.iinc 3 1, 3) := by decide +kernel
theorem dX9_wordAmong_81 : decode cX9_wordAmong 81 = .ok (.goto (-71), 3) := by decide +kernel
theorem dX9_wordAmong_84 : decode cX9_wordAmong 84 = .ok (.iconst (-1), 1) := by decide +kernel
theorem dX9_wordAmong_85 : decode cX9_wordAmong 85 = .ok (.ireturn, 1) := by decide +kernel
theorem dX9_cutNumber_0 : decode cX9_cutNumber 0 = .ok (.iload_n 1, 1) := by decide +kernel
theorem dX9_cutNumber_1 : decode cX9_cutNumber 1 = .ok (.istore_n 2, 1) := by decide +kernel
theorem dX9_cutNumber_2 : decode cX9_cutNumber 2 = .ok (.iconst 0, 1) := by decide +kernel
theorem dX9_cutNumber_3 : decode cX9_cutNumber 3 = .ok (.istore_n 3, 1) := by decide +kernel
theorem dX9_cutNumber_4 : decode cX9_cutNumber 4 = .ok (.iload_n 2, 1) := by decide +kernel
theorem dX9_cutNumber_5 : decode cX9_cutNumber 5 = .ok (.aload_n 0, 1) := by decide +kernel
theorem dX9_cutNumber_6 : decode cX9_cutNumber 6 = .ok (.getfield 24, 3) := by decide +kernel
theorem dX9_cutNumber_9 : decode cX9_cutNumber 9 = .ok (.if_icmp .ge 36, 3) := by decide +kernel
theorem dX9_cutNumber_12 : decode cX9_cutNumber 12 = .ok (.aload_n 0, 1) := by decide +kernel
theorem dX9_cutNumber_13 : decode cX9_cutNumber 13 = .ok (.getfield 9, 3) := by decide +kernel
theorem dX9_cutNumber_16 : decode cX9_cutNumber 16 = .ok (.iload_n 2, 1) := by decide +kernel
theorem dX9_cutNumber_17 : decode cX9_cutNumber 17 = .ok (.iaload, 1) := by decide +kernel
theorem dX9_cutNumber_18 : decode cX9_cutNumber 18 = .ok (.invokestatic 42, 3) := by decide +kernel
theorem dX9_cutNumber_21 : decode cX9_cutNumber 21 = .ok (.ifCond .eq 24, 3) := by decide +kernel
theorem dX9_cutNumber_24 : decode cX9_cutNumber 24 = .ok (.iload_n 3, 1) := by decide +kernel
theorem dX9_cutNumber_25 : decode cX9_cutNumber 25 = .ok (.bipush 10, 2) := by decide +kernel
theorem dX9_cutNumber_27 : decode cX9_cutNumber 27 = .ok (.imul, 1) := by decide +kernel
theorem dX9_cutNumber_28 : decode cX9_cutNumber 28 = .ok (.aload_n 0, 1) := by decide +kernel
theorem dX9_cutNumber_29 : decode cX9_cutNumber 29 = .ok (.getfield 9, 3) := by decide +kernel
theorem dX9_cutNumber_32 : decode cX9_cutNumber 32 = .ok (.iload_n 2, 1) := by decide +kernel
theorem dX9_cutNumber_33 : decode cX9_cutNumber 33 = .ok (.iaload, 1) := by decide +kernel
theorem dX9_cutNumber_34 : decode cX9_cutNumber 34 = .ok (.iadd, 1) := by decide +kernel
theorem dX9_cutNumber_35 : decode cX9_cutNumber 35 = .ok (.bipush 48, 2) := by decide +kernel
theorem dX9_cutNumber_37 : decode cX9_cutNumber 37 = .ok (.isub, 1) := by decide +kernel
theorem dX9_cutNumber_38 : decode cX9_cutNumber 38 = .ok (.istore_n 3, 1) := by decide +kernel
theorem dX9_cutNumber_39 : decode cX9_cutNumber 39 = .ok (.iinc 2 1, 3) := by decide +kernel
theorem dX9_cutNumber_42 : decode cX9_cutNumber 42 = .ok (.goto (-38), 3) := by decide +kernel
theorem dX9_cutNumber_45 : decode cX9_cutNumber 45 = .ok (.iload_n 2, 1) := by decide +kernel
theorem dX9_cutNumber_46 : decode cX9_cutNumber 46 = .ok (.iload_n 1, 1) := by decide +kernel
theorem dX9_cutNumber_47 : decode cX9_cutNumber 47 = .ok (.isub, 1) := by decide +kernel
theorem dX9_cutNumber_48 : decode cX9_cutNumber 48 = .ok (.iconst 4, 1) := by decide +kernel
theorem dX9_cutNumber_49 : decode cX9_cutNumber 49 = .ok (.if_icmp .le 7, 3) := by decide +kernel
theorem dX9_cutNumber_52 : decode cX9_cutNumber 52 = .ok (.iconst 1, 1) := by decide +kernel
theorem dX9_cutNumber_53 : decode cX9_cutNumber 53 = .ok (.goto 4, 3) := by decide +kernel
theorem dX9_cutNumber_56 : decode cX9_cutNumber 56 = .ok (.iconst 0, 1) := by decide +kernel
theorem dX9_cutNumber_57 : decode cX9_cutNumber 57 = .ok (.istore 4, 2) := by decide +kernel
theorem dX9_cutNumber_59 : decode cX9_cutNumber 59 = .ok (.aload_n 0, 1) := by decide +kernel
theorem dX9_cutNumber_60 : decode cX9_cutNumber 60 = .ok (.iload 4, 2) := by decide +kernel
theorem dX9_cutNumber_62 : decode cX9_cutNumber 62 = .ok (.ifCond .eq 8, 3) := by decide +kernel
theorem dX9_cutNumber_65 : decode cX9_cutNumber 65 = .ok (.bipush (-2), 2) := by decide +kernel
theorem dX9_cutNumber_67 : decode cX9_cutNumber 67 = .ok (.goto 5, 3) := by decide +kernel
theorem dX9_cutNumber_70 : decode cX9_cutNumber 70 = .ok (.bipush (-3), 2) := by decide +kernel
theorem dX9_cutNumber_72 : decode cX9_cutNumber 72 = .ok (.iload_n 3, 1) := by decide +kernel
theorem dX9_cutNumber_73 : decode cX9_cutNumber 73 = .ok (.iload_n 1, 1) := by decide +kernel
theorem dX9_cutNumber_74 : decode cX9_cutNumber 74 = .ok (.invokevirtual 51, 3) := by decide +kernel
theorem dX9_cutNumber_77 : decode cX9_cutNumber 77 = .ok (.iload_n 2, 1) := by decide +kernel
theorem dX9_cutNumber_78 : decode cX9_cutNumber 78 = .ok (.ireturn, 1) := by decide +kernel
theorem dX9_isLetter_0 : decode cX9_isLetter 0 = .ok (.iload_n 0, 1) := by decide +kernel
theorem dX9_isLetter_1 : decode cX9_isLetter 1 = .ok (.bipush 97, 2) := by decide +kernel
theorem dX9_isLetter_3 : decode cX9_isLetter 3 = .ok (.bipush 122, 2) := by decide +kernel
theorem dX9_isLetter_5 : decode cX9_isLetter 5 = .ok (.invokestatic 67, 3) := by decide +kernel
theorem dX9_isLetter_8 : decode cX9_isLetter 8 = .ok (.ireturn, 1) := by decide +kernel
theorem dX9_isDigit_0 : decode cX9_isDigit 0 = .ok (.iload_n 0, 1) := by decide +kernel
theorem dX9_isDigit_1 : decode cX9_isDigit 1 = .ok (.bipush 48, 2) := by decide +kernel
theorem dX9_isDigit_3 : decode cX9_isDigit 3 = .ok (.bipush 57, 2) := by decide +kernel
theorem dX9_isDigit_5 : decode cX9_isDigit 5 = .ok (.invokestatic 67, 3) := by decide +kernel
theorem dX9_isDigit_8 : decode cX9_isDigit 8 = .ok (.ireturn, 1) := by decide +kernel
theorem dX9_isSign_0 : decode cX9_isSign 0 = .ok (.iload_n 0, 1) := by decide +kernel
theorem dX9_isSign_1 : decode cX9_isSign 1 = .ok (.bipush 40, 2) := by decide +kernel
theorem dX9_isSign_3 : decode cX9_isSign 3 = .ok (.if_icmp .eq 45, 3) := by decide +kernel
theorem dX9_isSign_6 : decode cX9_isSign 6 = .ok (.iload_n 0, 1) := by decide +kernel
theorem dX9_isSign_7 : decode cX9_isSign 7 = .ok (.bipush 41, 2) := by decide +kernel
theorem dX9_isSign_9 : decode cX9_isSign 9 = .ok (.if_icmp .eq 39, 3) := by decide +kernel
theorem dX9_isSign_12 : decode cX9_isSign 12 = .ok (.iload_n 0, 1) := by decide +kernel
theorem dX9_isSign_13 : decode cX9_isSign 13 = .ok (.bipush 59, 2) := by decide +kernel
theorem dX9_isSign_15 : decode cX9_isSign 15 = .ok (.if_icmp .eq 33, 3) := by decide +kernel
theorem dX9_isSign_18 : decode cX9_isSign 18 = .ok (.iload_n 0, 1) := by decide +kernel
theorem dX9_isSign_19 : decode cX9_isSign 19 = .ok (.bipush 43, 2) := by decide +kernel
theorem dX9_isSign_21 : decode cX9_isSign 21 = .ok (.if_icmp .eq 27, 3) := by decide +kernel
theorem dX9_isSign_24 : decode cX9_isSign 24 = .ok (.iload_n 0, 1) := by decide +kernel
theorem dX9_isSign_25 : decode cX9_isSign 25 = .ok (.bipush 45, 2) := by decide +kernel
theorem dX9_isSign_27 : decode cX9_isSign 27 = .ok (.if_icmp .eq 21, 3) := by decide +kernel
theorem dX9_isSign_30 : decode cX9_isSign 30 = .ok (.iload_n 0, 1) := by decide +kernel
theorem dX9_isSign_31 : decode cX9_isSign 31 = .ok (.bipush 42, 2) := by decide +kernel
theorem dX9_isSign_33 : decode cX9_isSign 33 = .ok (.if_icmp .eq 15, 3) := by decide +kernel
theorem dX9_isSign_36 : decode cX9_isSign 36 = .ok (.iload_n 0, 1) := by decide +kernel
theorem dX9_isSign_37 : decode cX9_isSign 37 = .ok (.bipush 60, 2) := by decide +kernel
theorem dX9_isSign_39 : decode cX9_isSign 39 = .ok (.if_icmp .eq 9, 3) := by decide +kernel
theorem dX9_isSign_42 : decode cX9_isSign 42 = .ok (.iload_n 0, 1) := by decide +kernel
theorem dX9_isSign_43 : decode cX9_isSign 43 = .ok (.bipush 61, 2) := by decide +kernel
theorem dX9_isSign_45 : decode cX9_isSign 45 = .ok (.if_icmp .ne 7, 3) := by decide +kernel
theorem dX9_isSign_48 : decode cX9_isSign 48 = .ok (.iconst 1, 1) := by decide +kernel
theorem dX9_isSign_49 : decode cX9_isSign 49 = .ok (.goto 4, 3) := by decide +kernel
theorem dX9_isSign_52 : decode cX9_isSign 52 = .ok (.iconst 0, 1) := by decide +kernel
theorem dX9_isSign_53 : decode cX9_isSign 53 = .ok (.ireturn, 1) := by decide +kernel
theorem dX10_init_0 : decode cX10_init 0 = .ok (.aload_n 0, 1) := by decide +kernel
theorem dX10_init_1 : decode cX10_init 1 = .ok (.invokespecial 3, 3) := by decide +kernel
theorem dX10_init_4 : decode cX10_init 4 = .ok (.aload_n 0, 1) := by decide +kernel
theorem dX10_init_5 : decode cX10_init 5 = .ok (.sipush 960, 3) := by decide +kernel
theorem dX10_init_8 : decode cX10_init 8 = .ok (.newarray .int, 2) := by decide +kernel
theorem dX10_init_10 : decode cX10_init 10 = .ok (.putfield 9, 3) := by decide +kernel
theorem dX10_init_13 : decode cX10_init 13 = .ok (.aload_n 0, 1) := by decide +kernel
theorem dX10_init_14 : decode cX10_init 14 = .ok (.bipush 18, 2) := by decide +kernel
theorem dX10_init_16 : decode cX10_init 16 = .ok (.newarray .int, 2) := by decide +kernel
theorem dX10_init_18 : decode cX10_init 18 = .ok (.putfield 15, 3) := by decide +kernel
theorem dX10_init_21 : decode cX10_init 21 = .ok (.aload_n 0, 1) := by decide +kernel
theorem dX10_init_22 : decode cX10_init 22 = .ok (.bipush 18, 2) := by decide +kernel
theorem dX10_init_24 : decode cX10_init 24 = .ok (.newarray .int, 2) := by decide +kernel
theorem dX10_init_26 : decode cX10_init 26 = .ok (.putfield 18, 3) := by decide +kernel
theorem dX10_init_29 : decode cX10_init 29 = .ok (.aload_n 0, 1) := by decide +kernel
theorem dX10_init_30 : decode cX10_init 30 = .ok (.bipush 6, 2) := by decide +kernel
theorem dX10_init_32 : decode cX10_init 32 = .ok (.newarray .int, 2) := by decide +kernel
theorem dX10_init_34 : decode cX10_init 34 = .ok (.putfield 21, 3) := by decide +kernel
theorem dX10_init_37 : decode cX10_init 37 = .ok (.aload_n 0, 1) := by decide +kernel
theorem dX10_init_38 : decode cX10_init 38 = .ok (.sipush 160, 3) := by decide +kernel
theorem dX10_init_41 : decode cX10_init 41 = .ok (.newarray .int, 2) := by decide +kernel
theorem dX10_init_43 : decode cX10_init 43 = .ok (.putfield 24, 3) := by decide +kernel
theorem dX10_init_46 : decode cX10_init 46 = .ok (.return_, 1) := by decide +kernel
theorem dX10_has_0 : decode cX10_has 0 = .ok (.iload_n 1, 1) := by decide +kernel
theorem dX10_has_1 : decode cX10_has 1 = .ok (.ifCond .lt 15, 3) := by decide +kernel
theorem dX10_has_4 : decode cX10_has 4 = .ok (.iload_n 1, 1) := by decide +kernel
theorem dX10_has_5 : decode cX10_has 5 = .ok (.aload_n 0, 1) := by decide +kernel
theorem dX10_has_6 : decode cX10_has 6 = .ok (.getfield 27, 3) := by decide +kernel
theorem dX10_has_9 : decode cX10_has 9 = .ok (.if_icmp .ge 7, 3) := by decide +kernel
theorem dX10_has_12 : decode cX10_has 12 = .ok (.iconst 1, 1) := by decide +kernel
theorem dX10_has_13 : decode cX10_has 13 = .ok (.goto 4, 3) := by decide +kernel
theorem dX10_has_16 : decode cX10_has 16 = .ok (.iconst 0, 1) := by decide +kernel
theorem dX10_has_17 : decode cX10_has 17 = .ok (.ireturn, 1) := by decide +kernel
theorem dX10_keep_0 : decode cX10_keep 0 = .ok (.aload_n 0, 1) := by decide +kernel
theorem dX10_keep_1 : decode cX10_keep 1 = .ok (.getfield 27, 3) := by decide +kernel
theorem dX10_keep_4 : decode cX10_keep 4 = .ok (.bipush 6, 2) := by decide +kernel
theorem dX10_keep_6 : decode cX10_keep 6 = .ok (.if_icmp .lt 6, 3) := by decide +kernel
theorem dX10_keep_9 : decode cX10_keep 9 = .ok (.bipush (-4), 2) := by decide +kernel
theorem dX10_keep_11 : decode cX10_keep 11 = .ok (.ireturn, 1) := by decide +kernel
theorem dX10_keep_12 : decode cX10_keep 12 = .ok (.aload_n 0, 1) := by decide +kernel
theorem dX10_keep_13 : decode cX10_keep 13 = .ok (.getfield 27, 3) := by decide +kernel
theorem dX10_keep_16 : decode cX10_keep 16 = .ok (.sipush 160, 3) := by decide +kernel
theorem dX10_keep_19 : decode cX10_keep 19 = .ok (.imul, 1) := by decide +kernel
theorem dX10_keep_20 : decode cX10_keep 20 = .ok (.istore_n 2, 1) := by decide +kernel
theorem dX10_keep_21 : decode cX10_keep 21 = .ok (.iconst 0, 1) := by decide +kernel
theorem dX10_keep_22 : decode cX10_keep 22 = .ok (.istore_n 3, 1) := by decide +kernel
theorem dX10_keep_23 : decode cX10_keep 23 = .ok (.iload_n 3, 1) := by decide +kernel
theorem dX10_keep_24 : decode cX10_keep 24 = .ok (.sipush 160, 3) := by decide +kernel
theorem dX10_keep_27 : decode cX10_keep 27 = .ok (.if_icmp .ge 23, 3) := by decide +kernel
theorem dX10_keep_30 : decode cX10_keep 30 = .ok (.aload_n 0, 1) := by decide +kernel
theorem dX10_keep_31 : decode cX10_keep 31 = .ok (.getfield 9, 3) := by decide +kernel
theorem dX10_keep_34 : decode cX10_keep 34 = .ok (.iload_n 2, 1) := by decide +kernel
theorem dX10_keep_35 : decode cX10_keep 35 = .ok (.iload_n 3, 1) := by decide +kernel
theorem dX10_keep_36 : decode cX10_keep 36 = .ok (.iadd, 1) := by decide +kernel
theorem dX10_keep_37 : decode cX10_keep 37 = .ok (.aload_n 1, 1) := by decide +kernel
theorem dX10_keep_38 : decode cX10_keep 38 = .ok (.getfield 31, 3) := by decide +kernel
theorem dX10_keep_41 : decode cX10_keep 41 = .ok (.iload_n 3, 1) := by decide +kernel
theorem dX10_keep_42 : decode cX10_keep 42 = .ok (.iaload, 1) := by decide +kernel
theorem dX10_keep_43 : decode cX10_keep 43 = .ok (.iastore, 1) := by decide +kernel
theorem dX10_keep_44 : decode cX10_keep 44 = .ok (.iinc 3 1, 3) := by decide +kernel
theorem dX10_keep_47 : decode cX10_keep 47 = .ok (.goto (-24), 3) := by decide +kernel
theorem dX10_keep_50 : decode cX10_keep 50 = .ok (.iconst 0, 1) := by decide +kernel
theorem dX10_keep_51 : decode cX10_keep 51 = .ok (.istore_n 3, 1) := by decide +kernel
theorem dX10_keep_52 : decode cX10_keep 52 = .ok (.iconst 0, 1) := by decide +kernel
theorem dX10_keep_53 : decode cX10_keep 53 = .ok (.istore 4, 2) := by decide +kernel
theorem dX10_keep_55 : decode cX10_keep 55 = .ok (.iload 4, 2) := by decide +kernel
theorem dX10_keep_57 : decode cX10_keep 57 = .ok (.iconst 3, 1) := by decide +kernel
theorem dX10_keep_58 : decode cX10_keep 58 = .ok (.if_icmp .ge 57, 3) := by decide +kernel
theorem dX10_keep_61 : decode cX10_keep 61 = .ok (.aload_n 0, 1) := by decide +kernel
theorem dX10_keep_62 : decode cX10_keep 62 = .ok (.getfield 15, 3) := by decide +kernel
theorem dX10_keep_65 : decode cX10_keep 65 = .ok (.aload_n 0, 1) := by decide +kernel
theorem dX10_keep_66 : decode cX10_keep 66 = .ok (.getfield 27, 3) := by decide +kernel
theorem dX10_keep_69 : decode cX10_keep 69 = .ok (.iconst 3, 1) := by decide +kernel
theorem dX10_keep_70 : decode cX10_keep 70 = .ok (.imul, 1) := by decide +kernel
theorem dX10_keep_71 : decode cX10_keep 71 = .ok (.iload 4, 2) := by decide +kernel
theorem dX10_keep_73 : decode cX10_keep 73 = .ok (.iadd, 1) := by decide +kernel
theorem dX10_keep_74 : decode cX10_keep 74 = .ok (.iload_n 2, 1) := by decide +kernel
theorem dX10_keep_75 : decode cX10_keep 75 = .ok (.iload_n 3, 1) := by decide +kernel
theorem dX10_keep_76 : decode cX10_keep 76 = .ok (.iadd, 1) := by decide +kernel
theorem dX10_keep_77 : decode cX10_keep 77 = .ok (.iastore, 1) := by decide +kernel
theorem dX10_keep_78 : decode cX10_keep 78 = .ok (.aload_n 0, 1) := by decide +kernel
theorem dX10_keep_79 : decode cX10_keep 79 = .ok (.getfield 18, 3) := by decide +kernel
theorem dX10_keep_82 : decode cX10_keep 82 = .ok (.aload_n 0, 1) := by decide +kernel
theorem dX10_keep_83 : decode cX10_keep 83 = .ok (.getfield 27, 3) := by decide +kernel
theorem dX10_keep_86 : decode cX10_keep 86 = .ok (.iconst 3, 1) := by decide +kernel
theorem dX10_keep_87 : decode cX10_keep 87 = .ok (.imul, 1) := by decide +kernel
theorem dX10_keep_88 : decode cX10_keep 88 = .ok (.iload 4, 2) := by decide +kernel
theorem dX10_keep_90 : decode cX10_keep 90 = .ok (.iadd, 1) := by decide +kernel
theorem dX10_keep_91 : decode cX10_keep 91 = .ok (.iload_n 2, 1) := by decide +kernel
theorem dX10_keep_92 : decode cX10_keep 92 = .ok (.aload_n 1, 1) := by decide +kernel
theorem dX10_keep_93 : decode cX10_keep 93 = .ok (.getfield 34, 3) := by decide +kernel
theorem dX10_keep_96 : decode cX10_keep 96 = .ok (.iload 4, 2) := by decide +kernel
theorem dX10_keep_98 : decode cX10_keep 98 = .ok (.iaload, 1) := by decide +kernel
theorem dX10_keep_99 : decode cX10_keep 99 = .ok (.iadd, 1) := by decide +kernel
theorem dX10_keep_100 : decode cX10_keep 100 = .ok (.iastore, 1) := by decide +kernel
theorem dX10_keep_101 : decode cX10_keep 101 = .ok (.aload_n 1, 1) := by decide +kernel
theorem dX10_keep_102 : decode cX10_keep 102 = .ok (.getfield 34, 3) := by decide +kernel
theorem dX10_keep_105 : decode cX10_keep 105 = .ok (.iload 4, 2) := by decide +kernel
theorem dX10_keep_107 : decode cX10_keep 107 = .ok (.iaload, 1) := by decide +kernel
theorem dX10_keep_108 : decode cX10_keep 108 = .ok (.istore_n 3, 1) := by decide +kernel
theorem dX10_keep_109 : decode cX10_keep 109 = .ok (.iinc 4 1, 3) := by decide +kernel
theorem dX10_keep_112 : decode cX10_keep 112 = .ok (.goto (-57), 3) := by decide +kernel
theorem dX10_keep_115 : decode cX10_keep 115 = .ok (.aload_n 0, 1) := by decide +kernel
theorem dX10_keep_116 : decode cX10_keep 116 = .ok (.dup, 1) := by decide +kernel
theorem dX10_keep_117 : decode cX10_keep 117 = .ok (.getfield 27, 3) := by decide +kernel
theorem dX10_keep_120 : decode cX10_keep 120 = .ok (.iconst 1, 1) := by decide +kernel
theorem dX10_keep_121 : decode cX10_keep 121 = .ok (.iadd, 1) := by decide +kernel
theorem dX10_keep_122 : decode cX10_keep 122 = .ok (.putfield 27, 3) := by decide +kernel
theorem dX10_keep_125 : decode cX10_keep 125 = .ok (.aload_n 0, 1) := by decide +kernel
theorem dX10_keep_126 : decode cX10_keep 126 = .ok (.getfield 27, 3) := by decide +kernel
theorem dX10_keep_129 : decode cX10_keep 129 = .ok (.iconst 1, 1) := by decide +kernel
theorem dX10_keep_130 : decode cX10_keep 130 = .ok (.isub, 1) := by decide +kernel
theorem dX10_keep_131 : decode cX10_keep 131 = .ok (.ireturn, 1) := by decide +kernel
theorem dX10_mindsWidth_0 : decode cX10_mindsWidth 0 = .ok (.aload_n 0, 1) := by decide +kernel
theorem dX10_mindsWidth_1 : decode cX10_mindsWidth 1 = .ok (.getfield 35, 3) := by decide +kernel
theorem dX10_mindsWidth_4 : decode cX10_mindsWidth 4 = .ok (.iconst 3, 1) := by decide +kernel
theorem dX10_mindsWidth_5 : decode cX10_mindsWidth 5 = .ok (.imul, 1) := by decide +kernel
theorem dX10_mindsWidth_6 : decode cX10_mindsWidth 6 = .ok (.iload_n 1, 1) := by decide +kernel
theorem dX10_mindsWidth_7 : decode cX10_mindsWidth 7 = .ok (.iadd, 1) := by decide +kernel
theorem dX10_mindsWidth_8 : decode cX10_mindsWidth 8 = .ok (.istore_n 2, 1) := by decide +kernel
theorem dX10_mindsWidth_9 : decode cX10_mindsWidth 9 = .ok (.aload_n 0, 1) := by decide +kernel
theorem dX10_mindsWidth_10 : decode cX10_mindsWidth 10 = .ok (.getfield 15, 3) := by decide +kernel
theorem dX10_mindsWidth_13 : decode cX10_mindsWidth 13 = .ok (.iload_n 2, 1) := by decide +kernel
theorem dX10_mindsWidth_14 : decode cX10_mindsWidth 14 = .ok (.iaload, 1) := by decide +kernel
theorem dX10_mindsWidth_15 : decode cX10_mindsWidth 15 = .ok (.istore_n 3, 1) := by decide +kernel
theorem dX10_mindsWidth_16 : decode cX10_mindsWidth 16 = .ok (.iload_n 3, 1) := by decide +kernel
theorem dX10_mindsWidth_17 : decode cX10_mindsWidth 17 = .ok (.aload_n 0, 1) := by decide +kernel
theorem dX10_mindsWidth_18 : decode cX10_mindsWidth 18 = .ok (.getfield 18, 3) := by decide +kernel
theorem dX10_mindsWidth_21 : decode cX10_mindsWidth 21 = .ok (.iload_n 2, 1) := by decide +kernel
theorem dX10_mindsWidth_22 : decode cX10_mindsWidth 22 = .ok (.iaload, 1) := by decide +kernel
theorem dX10_mindsWidth_23 : decode cX10_mindsWidth 23 = .ok (.if_icmp .ge 22, 3) := by decide +kernel
theorem dX10_mindsWidth_26 : decode cX10_mindsWidth 26 = .ok (.aload_n 0, 1) := by decide +kernel
theorem dX10_mindsWidth_27 : decode cX10_mindsWidth 27 = .ok (.getfield 9, 3) := by decide +kernel
theorem dX10_mindsWidth_30 : decode cX10_mindsWidth 30 = .ok (.iload_n 3, 1) := by decide +kernel
theorem dX10_mindsWidth_31 : decode cX10_mindsWidth 31 = .ok (.iaload, 1) := by decide +kernel
theorem dX10_mindsWidth_32 : decode cX10_mindsWidth 32 = .ok (.bipush (-6), 2) := by decide +kernel
theorem dX10_mindsWidth_34 : decode cX10_mindsWidth 34 = .ok (.if_icmp .ne 5, 3) := by decide +kernel
theorem dX10_mindsWidth_37 : decode cX10_mindsWidth 37 = .ok (.iconst 1, 1) := by decide +kernel
theorem dX10_mindsWidth_38 : decode cX10_mindsWidth 38 = .ok (.ireturn, 1) := by decide +kernel
theorem dX10_mindsWidth_39 : decode cX10_mindsWidth 39 = .ok (.iinc 3 1, 3) := by decide +kernel
theorem dX10_mindsWidth_42 : decode cX10_mindsWidth 42 = .ok (.goto (-26), 3) := by decide +kernel
theorem dX10_mindsWidth_45 : decode cX10_mindsWidth 45 = .ok (.iconst 0, 1) := by decide +kernel
theorem dX10_mindsWidth_46 : decode cX10_mindsWidth 46 = .ok (.ireturn, 1) := by decide +kernel
theorem dX10_regard_0 : decode cX10_regard 0 = .ok (.aload_n 0, 1) := by decide +kernel
theorem dX10_regard_1 : decode cX10_regard 1 = .ok (.getfield 21, 3) := by decide +kernel
theorem dX10_regard_4 : decode cX10_regard 4 = .ok (.iconst 2, 1) := by decide +kernel
theorem dX10_regard_5 : decode cX10_regard 5 = .ok (.iload_n 1, 1) := by decide +kernel
theorem dX10_regard_6 : decode cX10_regard 6 = .ok (.iastore, 1) := by decide +kernel
theorem dX10_regard_7 : decode cX10_regard 7 = .ok (.aload_n 0, 1) := by decide +kernel
theorem dX10_regard_8 : decode cX10_regard 8 = .ok (.getfield 21, 3) := by decide +kernel
theorem dX10_regard_11 : decode cX10_regard 11 = .ok (.iconst 3, 1) := by decide +kernel
theorem dX10_regard_12 : decode cX10_regard 12 = .ok (.iload_n 2, 1) := by decide +kernel
theorem dX10_regard_13 : decode cX10_regard 13 = .ok (.iastore, 1) := by decide +kernel
theorem dX10_regard_14 : decode cX10_regard 14 = .ok (.aload_n 0, 1) := by decide +kernel
theorem dX10_regard_15 : decode cX10_regard 15 = .ok (.getfield 21, 3) := by decide +kernel
theorem dX10_regard_18 : decode cX10_regard 18 = .ok (.iconst 4, 1) := by decide +kernel
theorem dX10_regard_19 : decode cX10_regard 19 = .ok (.iload_n 3, 1) := by decide +kernel
theorem dX10_regard_20 : decode cX10_regard 20 = .ok (.iastore, 1) := by decide +kernel
theorem dX10_regard_21 : decode cX10_regard 21 = .ok (.aload_n 0, 1) := by decide +kernel
theorem dX10_regard_22 : decode cX10_regard 22 = .ok (.getfield 21, 3) := by decide +kernel
theorem dX10_regard_25 : decode cX10_regard 25 = .ok (.iconst 5, 1) := by decide +kernel
theorem dX10_regard_26 : decode cX10_regard 26 = .ok (.iload 4, 2) := by decide +kernel
theorem dX10_regard_28 : decode cX10_regard 28 = .ok (.iastore, 1) := by decide +kernel
theorem dX10_regard_29 : decode cX10_regard 29 = .ok (.return_, 1) := by decide +kernel
theorem dX10_worth_0 : decode cX10_worth 0 = .ok (.aload_n 0, 1) := by decide +kernel
theorem dX10_worth_1 : decode cX10_worth 1 = .ok (.getfield 21, 3) := by decide +kernel
theorem dX10_worth_4 : decode cX10_worth 4 = .ok (.iconst 0, 1) := by decide +kernel
theorem dX10_worth_5 : decode cX10_worth 5 = .ok (.iload_n 2, 1) := by decide +kernel
theorem dX10_worth_6 : decode cX10_worth 6 = .ok (.iastore, 1) := by decide +kernel
theorem dX10_worth_7 : decode cX10_worth 7 = .ok (.aload_n 0, 1) := by decide +kernel
theorem dX10_worth_8 : decode cX10_worth 8 = .ok (.getfield 21, 3) := by decide +kernel
theorem dX10_worth_11 : decode cX10_worth 11 = .ok (.iconst 1, 1) := by decide +kernel
theorem dX10_worth_12 : decode cX10_worth 12 = .ok (.iload_n 3, 1) := by decide +kernel
theorem dX10_worth_13 : decode cX10_worth 13 = .ok (.iastore, 1) := by decide +kernel
theorem dX10_worth_14 : decode cX10_worth 14 = .ok (.aload_n 0, 1) := by decide +kernel
theorem dX10_worth_15 : decode cX10_worth 15 = .ok (.getfield 35, 3) := by decide +kernel
theorem dX10_worth_18 : decode cX10_worth 18 = .ok (.iconst 3, 1) := by decide +kernel
theorem dX10_worth_19 : decode cX10_worth 19 = .ok (.imul, 1) := by decide +kernel
theorem dX10_worth_20 : decode cX10_worth 20 = .ok (.iload_n 1, 1) := by decide +kernel
theorem dX10_worth_21 : decode cX10_worth 21 = .ok (.iadd, 1) := by decide +kernel
theorem dX10_worth_22 : decode cX10_worth 22 = .ok (.istore 4, 2) := by decide +kernel
theorem dX10_worth_24 : decode cX10_worth 24 = .ok (.iconst 0, 1) := by decide +kernel
theorem dX10_worth_25 : decode cX10_worth 25 = .ok (.istore 5, 2) := by decide +kernel
theorem dX10_worth_27 : decode cX10_worth 27 = .ok (.aload_n 0, 1) := by decide +kernel
theorem dX10_worth_28 : decode cX10_worth 28 = .ok (.getfield 15, 3) := by decide +kernel
theorem dX10_worth_31 : decode cX10_worth 31 = .ok (.iload 4, 2) := by decide +kernel
theorem dX10_worth_33 : decode cX10_worth 33 = .ok (.iaload, 1) := by decide +kernel
theorem dX10_worth_34 : decode cX10_worth 34 = .ok (.istore 6, 2) := by decide +kernel
theorem dX10_worth_36 : decode cX10_worth 36 = .ok (.iload 6, 2) := by decide +kernel
theorem dX10_worth_38 : decode cX10_worth 38 = .ok (.aload_n 0, 1) := by decide +kernel
theorem dX10_worth_39 : decode cX10_worth 39 = .ok (.getfield 18, 3) := by decide +kernel
theorem dX10_worth_42 : decode cX10_worth 42 = .ok (.iload 4, 2) := by decide +kernel
theorem dX10_worth_44 : decode cX10_worth 44 = .ok (.iaload, 1) := by decide +kernel
theorem dX10_worth_45 : decode cX10_worth 45 = .ok (.if_icmp .ge 156, 3) := by decide +kernel
theorem dX10_worth_48 : decode cX10_worth 48 = .ok (.aload_n 0, 1) := by decide +kernel
theorem dX10_worth_49 : decode cX10_worth 49 = .ok (.getfield 9, 3) := by decide +kernel
theorem dX10_worth_52 : decode cX10_worth 52 = .ok (.iload 6, 2) := by decide +kernel
theorem dX10_worth_54 : decode cX10_worth 54 = .ok (.iaload, 1) := by decide +kernel
theorem dX10_worth_55 : decode cX10_worth 55 = .ok (.istore 7, 2) := by decide +kernel
theorem dX10_worth_57 : decode cX10_worth 57 = .ok (.iload 7, 2) := by decide +kernel
theorem dX10_worth_59 : decode cX10_worth 59 = .ok (.bipush (-6), 2) := by decide +kernel
theorem dX10_worth_61 : decode cX10_worth 61 = .ok (.if_icmp .lt 45, 3) := by decide +kernel
theorem dX10_worth_64 : decode cX10_worth 64 = .ok (.iload 5, 2) := by decide +kernel
theorem dX10_worth_66 : decode cX10_worth 66 = .ok (.sipush 160, 3) := by decide +kernel
theorem dX10_worth_69 : decode cX10_worth 69 = .ok (.if_icmp .lt 5, 3) := by decide +kernel
theorem dX10_worth_72 : decode cX10_worth 72 = .ok (.iconst 0, 1) := by decide +kernel
theorem dX10_worth_73 : decode cX10_worth 73 = .ok (.ireturn, 1) := by decide +kernel
theorem dX10_worth_74 : decode cX10_worth 74 = .ok (.aload_n 0, 1) := by decide +kernel
theorem dX10_worth_75 : decode cX10_worth 75 = .ok (.getfield 24, 3) := by decide +kernel
theorem dX10_worth_78 : decode cX10_worth 78 = .ok (.iload 5, 2) := by decide +kernel
theorem dX10_worth_80 : decode cX10_worth 80 = .ok (.iload 7, 2) := by decide +kernel
theorem dX10_worth_82 : decode cX10_worth 82 = .ok (.ifCond .lt 8, 3) := by decide +kernel
theorem dX10_worth_85 : decode cX10_worth 85 = .ok (.iload 7, 2) := by decide +kernel
theorem dX10_worth_87 : decode cX10_worth 87 = .ok (.goto 12, 3) := by decide +kernel
theorem dX10_worth_90 : decode cX10_worth 90 = .ok (.aload_n 0, 1) := by decide +kernel
theorem dX10_worth_91 : decode cX10_worth 91 = .ok (.getfield 21, 3) := by decide +kernel
theorem dX10_worth_94 : decode cX10_worth 94 = .ok (.iconst (-1), 1) := by decide +kernel
theorem dX10_worth_95 : decode cX10_worth 95 = .ok (.iload 7, 2) := by decide +kernel
theorem dX10_worth_97 : decode cX10_worth 97 = .ok (.isub, 1) := by decide +kernel
theorem dX10_worth_98 : decode cX10_worth 98 = .ok (.iaload, 1) := by decide +kernel
theorem dX10_worth_99 : decode cX10_worth 99 = .ok (.iastore, 1) := by decide +kernel
theorem dX10_worth_100 : decode cX10_worth 100 = .ok (.iinc 5 1, 3) := by decide +kernel
theorem dX10_worth_103 : decode cX10_worth 103 = .ok (.goto 92, 3) := by decide +kernel
theorem dX10_worth_106 : decode cX10_worth 106 = .ok (.iload 7, 2) := by decide +kernel
theorem dX10_worth_108 : decode cX10_worth 108 = .ok (.bipush (-13), 2) := by decide +kernel
theorem dX10_worth_110 : decode cX10_worth 110 = .ok (.if_icmp .eq 10, 3) := by decide +kernel
theorem dX10_worth_113 : decode cX10_worth 113 = .ok (.iload 7, 2) := by decide +kernel
theorem dX10_worth_115 : decode cX10_worth 115 = .ok (.bipush (-19), 2) := by decide +kernel
theorem dX10_worth_117 : decode cX10_worth 117 = .ok (.if_icmp .ne 37, 3) := by decide +kernel
theorem dX10_worth_120 : decode cX10_worth 120 = .ok (.iload 5, 2) := by decide +kernel
theorem dX10_worth_122 : decode cX10_worth 122 = .ok (.iconst 1, 1) := by decide +kernel
theorem dX10_worth_123 : decode cX10_worth 123 = .ok (.if_icmp .ge 5, 3) := by decide +kernel
theorem dX10_worth_126 : decode cX10_worth 126 = .ok (.iconst 0, 1) := by decide +kernel
theorem dX10_worth_127 : decode cX10_worth 127 = .ok (.ireturn, 1) := by decide +kernel
theorem dX10_worth_128 : decode cX10_worth 128 = .ok (.aload_n 0, 1) := by decide +kernel
theorem dX10_worth_129 : decode cX10_worth 129 = .ok (.getfield 24, 3) := by decide +kernel
theorem dX10_worth_132 : decode cX10_worth 132 = .ok (.iload 5, 2) := by decide +kernel
theorem dX10_worth_134 : decode cX10_worth 134 = .ok (.iconst 1, 1) := by decide +kernel
theorem dX10_worth_135 : decode cX10_worth 135 = .ok (.isub, 1) := by decide +kernel
theorem dX10_worth_136 : decode cX10_worth 136 = .ok (.iload 7, 2) := by decide +kernel
theorem dX10_worth_138 : decode cX10_worth 138 = .ok (.aload_n 0, 1) := by decide +kernel
theorem dX10_worth_139 : decode cX10_worth 139 = .ok (.getfield 24, 3) := by decide +kernel
theorem dX10_worth_142 : decode cX10_worth 142 = .ok (.iload 5, 2) := by decide +kernel
theorem dX10_worth_144 : decode cX10_worth 144 = .ok (.iconst 1, 1) := by decide +kernel
theorem dX10_worth_145 : decode cX10_worth 145 = .ok (.isub, 1) := by decide +kernel
theorem dX10_worth_146 : decode cX10_worth 146 = .ok (.iaload, 1) := by decide +kernel
theorem dX10_worth_147 : decode cX10_worth 147 = .ok (.invokestatic 38, 3) := by decide +kernel
theorem dX10_worth_150 : decode cX10_worth 150 = .ok (.iastore, 1) := by decide +kernel
theorem dX10_worth_151 : decode cX10_worth 151 = .ok (.goto 44, 3) := by decide +kernel
theorem dX10_worth_154 : decode cX10_worth 154 = .ok (.iload 5, 2) := by decide +kernel
theorem dX10_worth_156 : decode cX10_worth 156 = .ok (.iconst 2, 1) := by decide +kernel
theorem dX10_worth_157 : decode cX10_worth 157 = .ok (.if_icmp .ge 5, 3) := by decide +kernel
theorem dX10_worth_160 : decode cX10_worth 160 = .ok (.iconst 0, 1) := by decide +kernel
theorem dX10_worth_161 : decode cX10_worth 161 = .ok (.ireturn, 1) := by decide +kernel
theorem dX10_worth_162 : decode cX10_worth 162 = .ok (.iinc 5 (-1), 3) := by decide +kernel
theorem dX10_worth_165 : decode cX10_worth 165 = .ok (.aload_n 0, 1) := by decide +kernel
theorem dX10_worth_166 : decode cX10_worth 166 = .ok (.getfield 24, 3) := by decide +kernel
theorem dX10_worth_169 : decode cX10_worth 169 = .ok (.iload 5, 2) := by decide +kernel
theorem dX10_worth_171 : decode cX10_worth 171 = .ok (.iconst 1, 1) := by decide +kernel
theorem dX10_worth_172 : decode cX10_worth 172 = .ok (.isub, 1) := by decide +kernel
theorem dX10_worth_173 : decode cX10_worth 173 = .ok (.iload 7, 2) := by decide +kernel
theorem dX10_worth_175 : decode cX10_worth 175 = .ok (.aload_n 0, 1) := by decide +kernel
theorem dX10_worth_176 : decode cX10_worth 176 = .ok (.getfield 24, 3) := by decide +kernel
theorem dX10_worth_179 : decode cX10_worth 179 = .ok (.iload 5, 2) := by decide +kernel
theorem dX10_worth_181 : decode cX10_worth 181 = .ok (.iconst 1, 1) := by decide +kernel
theorem dX10_worth_182 : decode cX10_worth 182 = .ok (.isub, 1) := by decide +kernel
theorem dX10_worth_183 : decode cX10_worth 183 = .ok (.iaload, 1) := by decide +kernel
theorem dX10_worth_184 : decode cX10_worth 184 = .ok (.aload_n 0, 1) := by decide +kernel
theorem dX10_worth_185 : decode cX10_worth 185 = .ok (.getfield 24, 3) := by decide +kernel
theorem dX10_worth_188 : decode cX10_worth 188 = .ok (.iload 5, 2) := by decide +kernel
theorem dX10_worth_190 : decode cX10_worth 190 = .ok (.iaload, 1) := by decide +kernel
theorem dX10_worth_191 : decode cX10_worth 191 = .ok (.invokestatic 42, 3) := by decide +kernel
theorem dX10_worth_194 : decode cX10_worth 194 = .ok (.iastore, 1) := by decide +kernel
theorem dX10_worth_195 : decode cX10_worth 195 = .ok (.iinc 6 1, 3) := by decide +kernel
theorem dX10_worth_198 : decode cX10_worth 198 = .ok (.goto (-162), 3) := by decide +kernel
theorem dX10_worth_201 : decode cX10_worth 201 = .ok (.iload 5, 2) := by decide +kernel
theorem dX10_worth_203 : decode cX10_worth 203 = .ok (.ifCond .le 15, 3) := by decide +kernel
theorem dX10_worth_206 : decode cX10_worth 206 = .ok (.aload_n 0, 1) := by decide +kernel
theorem dX10_worth_207 : decode cX10_worth 207 = .ok (.getfield 24, 3) := by decide +kernel
theorem dX10_worth_210 : decode cX10_worth 210 = .ok (.iload 5, 2) := by decide +kernel
theorem dX10_worth_212 : decode cX10_worth 212 = .ok (.iconst 1, 1) := by decide +kernel
theorem dX10_worth_213 : decode cX10_worth 213 = .ok (.isub, 1) := by decide +kernel
theorem dX10_worth_214 : decode cX10_worth 214 = .ok (.iaload, 1) := by decide +kernel
theorem dX10_worth_215 : decode cX10_worth 215 = .ok (.goto 4, 3) := by decide +kernel
theorem dX10_worth_218 : decode cX10_worth 218 = .ok (.iconst 0, 1) := by decide +kernel
theorem dX10_worth_219 : decode cX10_worth 219 = .ok (.ireturn, 1) := by decide +kernel
theorem dX10_ofOne_0 : decode cX10_ofOne 0 = .ok (.iload_n 0, 1) := by decide +kernel
theorem dX10_ofOne_1 : decode cX10_ofOne 1 = .ok (.bipush (-19), 2) := by decide +kernel
theorem dX10_ofOne_3 : decode cX10_ofOne 3 = .ok (.if_icmp .ne 6, 3) := by decide +kernel
theorem dX10_ofOne_6 : decode cX10_ofOne 6 = .ok (.iload_n 1, 1) := by decide +kernel
theorem dX10_ofOne_7 : decode cX10_ofOne 7 = .ok (.ineg, 1) := by decide +kernel
theorem dX10_ofOne_8 : decode cX10_ofOne 8 = .ok (.ireturn, 1) := by decide +kernel
theorem dX10_ofOne_9 : decode cX10_ofOne 9 = .ok (.iload_n 1, 1) := by decide +kernel
theorem dX10_ofOne_10 : decode cX10_ofOne 10 = .ok (.ifCond .ne 7, 3) := by decide +kernel
theorem dX10_ofOne_13 : decode cX10_ofOne 13 = .ok (.iconst 1, 1) := by decide +kernel
theorem dX10_ofOne_14 : decode cX10_ofOne 14 = .ok (.goto 4, 3) := by decide +kernel
theorem dX10_ofOne_17 : decode cX10_ofOne 17 = .ok (.iconst 0, 1) := by decide +kernel
theorem dX10_ofOne_18 : decode cX10_ofOne 18 = .ok (.ireturn, 1) := by decide +kernel
theorem dX10_ofTwo_0 : decode cX10_ofTwo 0 = .ok (.iload_n 0, 1) := by decide +kernel
theorem dX10_ofTwo_1 : decode cX10_ofTwo 1 = .ok (.tableswitch 101 (-17) (-11) #[97, 93, 82, 71, 101, 57, 43], 43) := by decide +kernel
theorem dX10_ofTwo_44 : decode cX10_ofTwo 44 = .ok (.iload_n 1, 1) := by decide +kernel
theorem dX10_ofTwo_45 : decode cX10_ofTwo 45 = .ok (.ifCond .ne 7, 3) := by decide +kernel
theorem dX10_ofTwo_48 : decode cX10_ofTwo 48 = .ok (.iload_n 2, 1) := by decide +kernel
theorem dX10_ofTwo_49 : decode cX10_ofTwo 49 = .ok (.ifCond .eq 7, 3) := by decide +kernel
theorem dX10_ofTwo_52 : decode cX10_ofTwo 52 = .ok (.iconst 1, 1) := by decide +kernel
theorem dX10_ofTwo_53 : decode cX10_ofTwo 53 = .ok (.goto 4, 3) := by decide +kernel
theorem dX10_ofTwo_56 : decode cX10_ofTwo 56 = .ok (.iconst 0, 1) := by decide +kernel
theorem dX10_ofTwo_57 : decode cX10_ofTwo 57 = .ok (.ireturn, 1) := by decide +kernel
theorem dX10_ofTwo_58 : decode cX10_ofTwo 58 = .ok (.iload_n 1, 1) := by decide +kernel
theorem dX10_ofTwo_59 : decode cX10_ofTwo 59 = .ok (.ifCond .eq 11, 3) := by decide +kernel
theorem dX10_ofTwo_62 : decode cX10_ofTwo 62 = .ok (.iload_n 2, 1) := by decide +kernel
theorem dX10_ofTwo_63 : decode cX10_ofTwo 63 = .ok (.ifCond .eq 7, 3) := by decide +kernel
theorem dX10_ofTwo_66 : decode cX10_ofTwo 66 = .ok (.iconst 1, 1) := by decide +kernel
theorem dX10_ofTwo_67 : decode cX10_ofTwo 67 = .ok (.goto 4, 3) := by decide +kernel
theorem dX10_ofTwo_70 : decode cX10_ofTwo 70 = .ok (.iconst 0, 1) := by decide +kernel
theorem dX10_ofTwo_71 : decode cX10_ofTwo 71 = .ok (.ireturn, 1) := by decide +kernel
theorem dX10_ofTwo_72 : decode cX10_ofTwo 72 = .ok (.iload_n 1, 1) := by decide +kernel
theorem dX10_ofTwo_73 : decode cX10_ofTwo 73 = .ok (.iload_n 2, 1) := by decide +kernel
theorem dX10_ofTwo_74 : decode cX10_ofTwo 74 = .ok (.if_icmp .ge 7, 3) := by decide +kernel
theorem dX10_ofTwo_77 : decode cX10_ofTwo 77 = .ok (.iconst 1, 1) := by decide +kernel
theorem dX10_ofTwo_78 : decode cX10_ofTwo 78 = .ok (.goto 4, 3) := by decide +kernel
theorem dX10_ofTwo_81 : decode cX10_ofTwo 81 = .ok (.iconst 0, 1) := by decide +kernel
theorem dX10_ofTwo_82 : decode cX10_ofTwo 82 = .ok (.ireturn, 1) := by decide +kernel
theorem dX10_ofTwo_83 : decode cX10_ofTwo 83 = .ok (.iload_n 1, 1) := by decide +kernel
theorem dX10_ofTwo_84 : decode cX10_ofTwo 84 = .ok (.iload_n 2, 1) := by decide +kernel
theorem dX10_ofTwo_85 : decode cX10_ofTwo 85 = .ok (.if_icmp .ne 7, 3) := by decide +kernel
theorem dX10_ofTwo_88 : decode cX10_ofTwo 88 = .ok (.iconst 1, 1) := by decide +kernel
theorem dX10_ofTwo_89 : decode cX10_ofTwo 89 = .ok (.goto 4, 3) := by decide +kernel
theorem dX10_ofTwo_92 : decode cX10_ofTwo 92 = .ok (.iconst 0, 1) := by decide +kernel
theorem dX10_ofTwo_93 : decode cX10_ofTwo 93 = .ok (.ireturn, 1) := by decide +kernel
theorem dX10_ofTwo_94 : decode cX10_ofTwo 94 = .ok (.iload_n 1, 1) := by decide +kernel
theorem dX10_ofTwo_95 : decode cX10_ofTwo 95 = .ok (.iload_n 2, 1) := by decide +kernel
theorem dX10_ofTwo_96 : decode cX10_ofTwo 96 = .ok (.iadd, 1) := by decide +kernel
theorem dX10_ofTwo_97 : decode cX10_ofTwo 97 = .ok (.ireturn, 1) := by decide +kernel
theorem dX10_ofTwo_98 : decode cX10_ofTwo 98 = .ok (.iload_n 1, 1) := by decide +kernel
theorem dX10_ofTwo_99 : decode cX10_ofTwo 99 = .ok (.iload_n 2, 1) := by decide +kernel
theorem dX10_ofTwo_100 : decode cX10_ofTwo 100 = .ok (.isub, 1) := by decide +kernel
theorem dX10_ofTwo_101 : decode cX10_ofTwo 101 = .ok (.ireturn, 1) := by decide +kernel
theorem dX10_ofTwo_102 : decode cX10_ofTwo 102 = .ok (.iload_n 1, 1) := by decide +kernel
theorem dX10_ofTwo_103 : decode cX10_ofTwo 103 = .ok (.iload_n 2, 1) := by decide +kernel
theorem dX10_ofTwo_104 : decode cX10_ofTwo 104 = .ok (.imul, 1) := by decide +kernel
theorem dX10_ofTwo_105 : decode cX10_ofTwo 105 = .ok (.ireturn, 1) := by decide +kernel
theorem dX11_init_0 : decode cX11_init 0 = .ok (.aload_n 0, 1) := by decide +kernel
theorem dX11_init_1 : decode cX11_init 1 = .ok (.invokespecial 3, 3) := by decide +kernel
theorem dX11_init_4 : decode cX11_init 4 = .ok (.aload_n 0, 1) := by decide +kernel
theorem dX11_init_5 : decode cX11_init 5 = .ok (.new 9, 3) := by decide +kernel
theorem dX11_init_8 : decode cX11_init 8 = .ok (.dup, 1) := by decide +kernel
theorem dX11_init_9 : decode cX11_init 9 = .ok (.invokespecial 11, 3) := by decide +kernel
theorem dX11_init_12 : decode cX11_init 12 = .ok (.putfield 12, 3) := by decide +kernel
theorem dX11_init_15 : decode cX11_init 15 = .ok (.aload_n 0, 1) := by decide +kernel
theorem dX11_init_16 : decode cX11_init 16 = .ok (.new 16, 3) := by decide +kernel
theorem dX11_init_19 : decode cX11_init 19 = .ok (.dup, 1) := by decide +kernel
theorem dX11_init_20 : decode cX11_init 20 = .ok (.invokespecial 18, 3) := by decide +kernel
theorem dX11_init_23 : decode cX11_init 23 = .ok (.putfield 19, 3) := by decide +kernel
theorem dX11_init_26 : decode cX11_init 26 = .ok (.aload_n 0, 1) := by decide +kernel
theorem dX11_init_27 : decode cX11_init 27 = .ok (.new 23, 3) := by decide +kernel
theorem dX11_init_30 : decode cX11_init 30 = .ok (.dup, 1) := by decide +kernel
theorem dX11_init_31 : decode cX11_init 31 = .ok (.invokespecial 25, 3) := by decide +kernel
theorem dX11_init_34 : decode cX11_init 34 = .ok (.putfield 26, 3) := by decide +kernel
theorem dX11_init_37 : decode cX11_init 37 = .ok (.aload_n 0, 1) := by decide +kernel
theorem dX11_init_38 : decode cX11_init 38 = .ok (.new 30, 3) := by decide +kernel
theorem dX11_init_41 : decode cX11_init 41 = .ok (.dup, 1) := by decide +kernel
theorem dX11_init_42 : decode cX11_init 42 = .ok (.invokespecial 32, 3) := by decide +kernel
theorem dX11_init_45 : decode cX11_init 45 = .ok (.putfield 33, 3) := by decide +kernel
theorem dX11_init_48 : decode cX11_init 48 = .ok (.aload_n 0, 1) := by decide +kernel
theorem dX11_init_49 : decode cX11_init 49 = .ok (.new 37, 3) := by decide +kernel
theorem dX11_init_52 : decode cX11_init 52 = .ok (.dup, 1) := by decide +kernel
theorem dX11_init_53 : decode cX11_init 53 = .ok (.invokespecial 39, 3) := by decide +kernel
theorem dX11_init_56 : decode cX11_init 56 = .ok (.putfield 40, 3) := by decide +kernel
theorem dX11_init_59 : decode cX11_init 59 = .ok (.aload_n 0, 1) := by decide +kernel
theorem dX11_init_60 : decode cX11_init 60 = .ok (.new 44, 3) := by decide +kernel
theorem dX11_init_63 : decode cX11_init 63 = .ok (.dup, 1) := by decide +kernel
theorem dX11_init_64 : decode cX11_init 64 = .ok (.invokespecial 46, 3) := by decide +kernel
theorem dX11_init_67 : decode cX11_init 67 = .ok (.putfield 47, 3) := by decide +kernel
theorem dX11_init_70 : decode cX11_init 70 = .ok (.iconst 0, 1) := by decide +kernel
theorem dX11_init_71 : decode cX11_init 71 = .ok (.istore_n 1, 1) := by decide +kernel
theorem dX11_init_72 : decode cX11_init 72 = .ok (.iload_n 1, 1) := by decide +kernel
theorem dX11_init_73 : decode cX11_init 73 = .ok (.ldc 51, 2) := by decide +kernel
theorem dX11_init_75 : decode cX11_init 75 = .ok (.invokevirtual 53, 3) := by decide +kernel
theorem dX11_init_78 : decode cX11_init 78 = .ok (.if_icmp .ge 25, 3) := by decide +kernel
theorem dX11_init_81 : decode cX11_init 81 = .ok (.aload_n 0, 1) := by decide +kernel
theorem dX11_init_82 : decode cX11_init 82 = .ok (.getfield 19, 3) := by decide +kernel
theorem dX11_init_85 : decode cX11_init 85 = .ok (.getfield 59, 3) := by decide +kernel
theorem dX11_init_88 : decode cX11_init 88 = .ok (.ldc 51, 2) := by decide +kernel
theorem dX11_init_90 : decode cX11_init 90 = .ok (.iload_n 1, 1) := by decide +kernel
theorem dX11_init_91 : decode cX11_init 91 = .ok (.invokevirtual 63, 3) := by decide +kernel
theorem dX11_init_94 : decode cX11_init 94 = .ok (.invokevirtual 67, 3) := by decide +kernel
theorem dX11_init_97 : decode cX11_init 97 = .ok (.iinc 1 1, 3) := by decide +kernel
theorem dX11_init_100 : decode cX11_init 100 = .ok (.goto (-28), 3) := by decide +kernel
theorem dX11_init_103 : decode cX11_init 103 = .ok (.aload_n 0, 1) := by decide +kernel
theorem dX11_init_104 : decode cX11_init 104 = .ok (.getfield 19, 3) := by decide +kernel
theorem dX11_init_107 : decode cX11_init 107 = .ok (.invokevirtual 73, 3) := by decide +kernel
theorem dX11_init_110 : decode cX11_init 110 = .ok (.pop, 1) := by decide +kernel
theorem dX11_init_111 : decode cX11_init 111 = .ok (.aload_n 0, 1) := by decide +kernel
theorem dX11_init_112 : decode cX11_init 112 = .ok (.getfield 12, 3) := by decide +kernel
theorem dX11_init_115 : decode cX11_init 115 = .ok (.getfield 76, 3) := by decide +kernel
theorem dX11_init_118 : decode cX11_init 118 = .ok (.aload_n 0, 1) := by decide +kernel
theorem dX11_init_119 : decode cX11_init 119 = .ok (.getfield 19, 3) := by decide +kernel
theorem dX11_init_122 : decode cX11_init 122 = .ok (.invokevirtual 80, 3) := by decide +kernel
theorem dX11_init_125 : decode cX11_init 125 = .ok (.pop, 1) := by decide +kernel
theorem dX11_init_126 : decode cX11_init 126 = .ok (.return_, 1) := by decide +kernel
theorem dX11_man_0 : decode cX11_man 0 = .ok (.aload_n 0, 1) := by decide +kernel
theorem dX11_man_1 : decode cX11_man 1 = .ok (.getfield 12, 3) := by decide +kernel
theorem dX11_man_4 : decode cX11_man 4 = .ok (.getfield 86, 3) := by decide +kernel
theorem dX11_man_7 : decode cX11_man 7 = .ok (.iload_n 1, 1) := by decide +kernel
theorem dX11_man_8 : decode cX11_man 8 = .ok (.iload_n 2, 1) := by decide +kernel
theorem dX11_man_9 : decode cX11_man 9 = .ok (.iload_n 3, 1) := by decide +kernel
theorem dX11_man_10 : decode cX11_man 10 = .ok (.invokevirtual 89, 3) := by decide +kernel
theorem dX11_man_13 : decode cX11_man 13 = .ok (.ireturn, 1) := by decide +kernel
theorem dX11_part_0 : decode cX11_part 0 = .ok (.aload_n 0, 1) := by decide +kernel
theorem dX11_part_1 : decode cX11_part 1 = .ok (.getfield 12, 3) := by decide +kernel
theorem dX11_part_4 : decode cX11_part 4 = .ok (.getfield 86, 3) := by decide +kernel
theorem dX11_part_7 : decode cX11_part 7 = .ok (.iload_n 1, 1) := by decide +kernel
theorem dX11_part_8 : decode cX11_part 8 = .ok (.invokevirtual 93, 3) := by decide +kernel
theorem dX11_part_11 : decode cX11_part 11 = .ok (.ifCond .eq 23, 3) := by decide +kernel
theorem dX11_part_14 : decode cX11_part 14 = .ok (.iload_n 2, 1) := by decide +kernel
theorem dX11_part_15 : decode cX11_part 15 = .ok (.invokestatic 97, 3) := by decide +kernel
theorem dX11_part_18 : decode cX11_part 18 = .ok (.ifCond .eq 16, 3) := by decide +kernel
theorem dX11_part_21 : decode cX11_part 21 = .ok (.iload_n 3, 1) := by decide +kernel
theorem dX11_part_22 : decode cX11_part 22 = .ok (.sipush (-199), 3) := by decide +kernel
theorem dX11_part_25 : decode cX11_part 25 = .ok (.sipush 199, 3) := by decide +kernel
theorem dX11_part_28 : decode cX11_part 28 = .ok (.invokestatic 100, 3) := by decide +kernel
theorem dX11_part_31 : decode cX11_part 31 = .ok (.ifCond .ne 7, 3) := by decide +kernel
theorem dX11_part_34 : decode cX11_part 34 = .ok (.sipush (-1000), 3) := by decide +kernel
theorem dX11_part_37 : decode cX11_part 37 = .ok (.ireturn, 1) := by decide +kernel
theorem dX11_part_38 : decode cX11_part 38 = .ok (.aload_n 0, 1) := by decide +kernel
theorem dX11_part_39 : decode cX11_part 39 = .ok (.getfield 12, 3) := by decide +kernel
theorem dX11_part_42 : decode cX11_part 42 = .ok (.getfield 86, 3) := by decide +kernel
theorem dX11_part_45 : decode cX11_part 45 = .ok (.iload_n 1, 1) := by decide +kernel
theorem dX11_part_46 : decode cX11_part 46 = .ok (.iload_n 2, 1) := by decide +kernel
theorem dX11_part_47 : decode cX11_part 47 = .ok (.invokevirtual 104, 3) := by decide +kernel
theorem dX11_part_50 : decode cX11_part 50 = .ok (.istore 4, 2) := by decide +kernel
theorem dX11_part_52 : decode cX11_part 52 = .ok (.aload_n 0, 1) := by decide +kernel
theorem dX11_part_53 : decode cX11_part 53 = .ok (.getfield 12, 3) := by decide +kernel
theorem dX11_part_56 : decode cX11_part 56 = .ok (.getfield 86, 3) := by decide +kernel
theorem dX11_part_59 : decode cX11_part 59 = .ok (.getfield 108, 3) := by decide +kernel
theorem dX11_part_62 : decode cX11_part 62 = .ok (.iload_n 1, 1) := by decide +kernel
theorem dX11_part_63 : decode cX11_part 63 = .ok (.iconst 4, 1) := by decide +kernel
theorem dX11_part_64 : decode cX11_part 64 = .ok (.imul, 1) := by decide +kernel
theorem dX11_part_65 : decode cX11_part 65 = .ok (.iload_n 2, 1) := by decide +kernel
theorem dX11_part_66 : decode cX11_part 66 = .ok (.iadd, 1) := by decide +kernel
theorem dX11_part_67 : decode cX11_part 67 = .ok (.iload_n 3, 1) := by decide +kernel
theorem dX11_part_68 : decode cX11_part 68 = .ok (.iastore, 1) := by decide +kernel
theorem dX11_part_69 : decode cX11_part 69 = .ok (.iload 4, 2) := by decide +kernel
theorem dX11_part_71 : decode cX11_part 71 = .ok (.ireturn, 1) := by decide +kernel
theorem dX11_move_0 : decode cX11_move 0 = .ok (.aload_n 0, 1) := by decide +kernel
theorem dX11_move_1 : decode cX11_move 1 = .ok (.getfield 12, 3) := by decide +kernel
theorem dX11_move_4 : decode cX11_move 4 = .ok (.getfield 86, 3) := by decide +kernel
theorem dX11_move_7 : decode cX11_move 7 = .ok (.iload_n 1, 1) := by decide +kernel
theorem dX11_move_8 : decode cX11_move 8 = .ok (.invokevirtual 93, 3) := by decide +kernel
theorem dX11_move_11 : decode cX11_move 11 = .ok (.ifCond .ne 7, 3) := by decide +kernel
theorem dX11_move_14 : decode cX11_move 14 = .ok (.sipush (-1000), 3) := by decide +kernel
theorem dX11_move_17 : decode cX11_move 17 = .ok (.ireturn, 1) := by decide +kernel
theorem dX11_move_18 : decode cX11_move 18 = .ok (.iload_n 2, 1) := by decide +kernel
theorem dX11_move_19 : decode cX11_move 19 = .ok (.ifCond .ne 40, 3) := by decide +kernel
theorem dX11_move_22 : decode cX11_move 22 = .ok (.iload_n 3, 1) := by decide +kernel
theorem dX11_move_23 : decode cX11_move 23 = .ok (.invokestatic 112, 3) := by decide +kernel
theorem dX11_move_26 : decode cX11_move 26 = .ok (.ifCond .eq 33, 3) := by decide +kernel
theorem dX11_move_29 : decode cX11_move 29 = .ok (.aload_n 0, 1) := by decide +kernel
theorem dX11_move_30 : decode cX11_move 30 = .ok (.getfield 12, 3) := by decide +kernel
theorem dX11_move_33 : decode cX11_move 33 = .ok (.getfield 86, 3) := by decide +kernel
theorem dX11_move_36 : decode cX11_move 36 = .ok (.getfield 115, 3) := by decide +kernel
theorem dX11_move_39 : decode cX11_move 39 = .ok (.iload_n 1, 1) := by decide +kernel
theorem dX11_move_40 : decode cX11_move 40 = .ok (.iaload, 1) := by decide +kernel
theorem dX11_move_41 : decode cX11_move 41 = .ok (.istore 4, 2) := by decide +kernel
theorem dX11_move_43 : decode cX11_move 43 = .ok (.aload_n 0, 1) := by decide +kernel
theorem dX11_move_44 : decode cX11_move 44 = .ok (.getfield 12, 3) := by decide +kernel
theorem dX11_move_47 : decode cX11_move 47 = .ok (.getfield 86, 3) := by decide +kernel
theorem dX11_move_50 : decode cX11_move 50 = .ok (.getfield 115, 3) := by decide +kernel
theorem dX11_move_53 : decode cX11_move 53 = .ok (.iload_n 1, 1) := by decide +kernel
theorem dX11_move_54 : decode cX11_move 54 = .ok (.iload_n 3, 1) := by decide +kernel
theorem dX11_move_55 : decode cX11_move 55 = .ok (.iastore, 1) := by decide +kernel
theorem dX11_move_56 : decode cX11_move 56 = .ok (.iload 4, 2) := by decide +kernel
theorem dX11_move_58 : decode cX11_move 58 = .ok (.ireturn, 1) := by decide +kernel
theorem dX11_move_59 : decode cX11_move 59 = .ok (.iload_n 2, 1) := by decide +kernel
theorem dX11_move_60 : decode cX11_move 60 = .ok (.iconst 1, 1) := by decide +kernel
theorem dX11_move_61 : decode cX11_move 61 = .ok (.if_icmp .ne 40, 3) := by decide +kernel
theorem dX11_move_64 : decode cX11_move 64 = .ok (.iload_n 3, 1) := by decide +kernel
theorem dX11_move_65 : decode cX11_move 65 = .ok (.invokestatic 118, 3) := by decide +kernel
theorem dX11_move_68 : decode cX11_move 68 = .ok (.ifCond .eq 33, 3) := by decide +kernel
theorem dX11_move_71 : decode cX11_move 71 = .ok (.aload_n 0, 1) := by decide +kernel
theorem dX11_move_72 : decode cX11_move 72 = .ok (.getfield 12, 3) := by decide +kernel
theorem dX11_move_75 : decode cX11_move 75 = .ok (.getfield 86, 3) := by decide +kernel
theorem dX11_move_78 : decode cX11_move 78 = .ok (.getfield 121, 3) := by decide +kernel
theorem dX11_move_81 : decode cX11_move 81 = .ok (.iload_n 1, 1) := by decide +kernel
theorem dX11_move_82 : decode cX11_move 82 = .ok (.iaload, 1) := by decide +kernel
theorem dX11_move_83 : decode cX11_move 83 = .ok (.istore 4, 2) := by decide +kernel
theorem dX11_move_85 : decode cX11_move 85 = .ok (.aload_n 0, 1) := by decide +kernel
theorem dX11_move_86 : decode cX11_move 86 = .ok (.getfield 12, 3) := by decide +kernel
theorem dX11_move_89 : decode cX11_move 89 = .ok (.getfield 86, 3) := by decide +kernel
theorem dX11_move_92 : decode cX11_move 92 = .ok (.getfield 121, 3) := by decide +kernel
theorem dX11_move_95 : decode cX11_move 95 = .ok (.iload_n 1, 1) := by decide +kernel
theorem dX11_move_96 : decode cX11_move 96 = .ok (.iload_n 3, 1) := by decide +kernel
theorem dX11_move_97 : decode cX11_move 97 = .ok (.iastore, 1) := by decide +kernel
theorem dX11_move_98 : decode cX11_move 98 = .ok (.iload 4, 2) := by decide +kernel
theorem dX11_move_100 : decode cX11_move 100 = .ok (.ireturn, 1) := by decide +kernel
theorem dX11_move_101 : decode cX11_move 101 = .ok (.sipush (-1000), 3) := by decide +kernel
theorem dX11_move_104 : decode cX11_move 104 = .ok (.ireturn, 1) := by decide +kernel
theorem dX11_front_0 : decode cX11_front 0 = .ok (.aload_n 0, 1) := by decide +kernel
theorem dX11_front_1 : decode cX11_front 1 = .ok (.getfield 12, 3) := by decide +kernel
theorem dX11_front_4 : decode cX11_front 4 = .ok (.getfield 86, 3) := by decide +kernel
theorem dX11_front_7 : decode cX11_front 7 = .ok (.iload_n 1, 1) := by decide +kernel
theorem dX11_front_8 : decode cX11_front 8 = .ok (.invokevirtual 93, 3) := by decide +kernel
theorem dX11_front_11 : decode cX11_front 11 = .ok (.ifCond .eq 10, 3) := by decide +kernel
theorem dX11_front_14 : decode cX11_front 14 = .ok (.iload_n 2, 1) := by decide +kernel
theorem dX11_front_15 : decode cX11_front 15 = .ok (.invokestatic 124, 3) := by decide +kernel
theorem dX11_front_18 : decode cX11_front 18 = .ok (.ifCond .ne 7, 3) := by decide +kernel
theorem dX11_front_21 : decode cX11_front 21 = .ok (.ldc2_w 127, 3) := by decide +kernel
theorem dX11_front_24 : decode cX11_front 24 = .ok (.lreturn, 1) := by decide +kernel
theorem dX11_front_25 : decode cX11_front 25 = .ok (.aload_n 0, 1) := by decide +kernel
theorem dX11_front_26 : decode cX11_front 26 = .ok (.getfield 12, 3) := by decide +kernel
theorem dX11_front_29 : decode cX11_front 29 = .ok (.aload_n 0, 1) := by decide +kernel
theorem dX11_front_30 : decode cX11_front 30 = .ok (.getfield 129, 3) := by decide +kernel
theorem dX11_front_33 : decode cX11_front 33 = .ok (.invokevirtual 133, 3) := by decide +kernel
theorem dX11_front_36 : decode cX11_front 36 = .ok (.iload_n 3, 1) := by decide +kernel
theorem dX11_front_37 : decode cX11_front 37 = .ok (.tableswitch 63 0 2 #[27, 38, 52], 27) := by decide +kernel
theorem dX11_front_64 : decode cX11_front 64 = .ok (.aload_n 0, 1) := by decide +kernel
theorem dX11_front_65 : decode cX11_front 65 = .ok (.getfield 12, 3) := by decide +kernel
theorem dX11_front_68 : decode cX11_front 68 = .ok (.iload_n 1, 1) := by decide +kernel
theorem dX11_front_69 : decode cX11_front 69 = .ok (.iload_n 2, 1) := by decide +kernel
theorem dX11_front_70 : decode cX11_front 70 = .ok (.invokevirtual 136, 3) := by decide +kernel
theorem dX11_front_73 : decode cX11_front 73 = .ok (.i2l, 1) := by decide +kernel
theorem dX11_front_74 : decode cX11_front 74 = .ok (.lreturn, 1) := by decide +kernel
theorem dX11_front_75 : decode cX11_front 75 = .ok (.aload_n 0, 1) := by decide +kernel
theorem dX11_front_76 : decode cX11_front 76 = .ok (.getfield 12, 3) := by decide +kernel
theorem dX11_front_79 : decode cX11_front 79 = .ok (.iload_n 1, 1) := by decide +kernel
theorem dX11_front_80 : decode cX11_front 80 = .ok (.iload_n 2, 1) := by decide +kernel
theorem dX11_front_81 : decode cX11_front 81 = .ok (.invokevirtual 139, 3) := by decide +kernel
theorem dX11_front_84 : decode cX11_front 84 = .ok (.invokestatic 142, 3) := by decide +kernel
theorem dX11_front_87 : decode cX11_front 87 = .ok (.i2l, 1) := by decide +kernel
theorem dX11_front_88 : decode cX11_front 88 = .ok (.lreturn, 1) := by decide +kernel
theorem dX11_front_89 : decode cX11_front 89 = .ok (.aload_n 0, 1) := by decide +kernel
theorem dX11_front_90 : decode cX11_front 90 = .ok (.getfield 12, 3) := by decide +kernel
theorem dX11_front_93 : decode cX11_front 93 = .ok (.iload_n 1, 1) := by decide +kernel
theorem dX11_front_94 : decode cX11_front 94 = .ok (.iload_n 2, 1) := by decide +kernel
theorem dX11_front_95 : decode cX11_front 95 = .ok (.invokevirtual 146, 3) := by decide +kernel
theorem dX11_front_98 : decode cX11_front 98 = .ok (.i2l, 1) := by decide +kernel
theorem dX11_front_99 : decode cX11_front 99 = .ok (.lreturn, 1) := by decide +kernel
theorem dX11_front_100 : decode cX11_front 100 = .ok (.ldc2_w 127, 3) := by decide +kernel
theorem dX11_front_103 : decode cX11_front 103 = .ok (.lreturn, 1) := by decide +kernel
theorem dX11_camera_0 : decode cX11_camera 0 = .ok (.aload_n 0, 1) := by decide +kernel
theorem dX11_camera_1 : decode cX11_camera 1 = .ok (.getfield 12, 3) := by decide +kernel
theorem dX11_camera_4 : decode cX11_camera 4 = .ok (.getfield 149, 3) := by decide +kernel
theorem dX11_camera_7 : decode cX11_camera 7 = .ok (.iload_n 1, 1) := by decide +kernel
theorem dX11_camera_8 : decode cX11_camera 8 = .ok (.iload_n 2, 1) := by decide +kernel
theorem dX11_camera_9 : decode cX11_camera 9 = .ok (.iload_n 3, 1) := by decide +kernel
theorem dX11_camera_10 : decode cX11_camera 10 = .ok (.invokevirtual 153, 3) := by decide +kernel
theorem dX11_camera_13 : decode cX11_camera 13 = .ok (.ireturn, 1) := by decide +kernel
theorem dX11_frame_0 : decode cX11_frame 0 = .ok (.aload_n 0, 1) := by decide +kernel
theorem dX11_frame_1 : decode cX11_frame 1 = .ok (.getfield 12, 3) := by decide +kernel
theorem dX11_frame_4 : decode cX11_frame 4 = .ok (.getfield 149, 3) := by decide +kernel
theorem dX11_frame_7 : decode cX11_frame 7 = .ok (.iload_n 1, 1) := by decide +kernel
theorem dX11_frame_8 : decode cX11_frame 8 = .ok (.invokevirtual 156, 3) := by decide +kernel
theorem dX11_frame_11 : decode cX11_frame 11 = .ok (.ifCond .eq 10, 3) := by decide +kernel
theorem dX11_frame_14 : decode cX11_frame 14 = .ok (.iload_n 2, 1) := by decide +kernel
theorem dX11_frame_15 : decode cX11_frame 15 = .ok (.invokestatic 124, 3) := by decide +kernel
theorem dX11_frame_18 : decode cX11_frame 18 = .ok (.ifCond .ne 6, 3) := by decide +kernel
theorem dX11_frame_21 : decode cX11_frame 21 = .ok (.bipush (-2), 2) := by decide +kernel
theorem dX11_frame_23 : decode cX11_frame 23 = .ok (.ireturn, 1) := by decide +kernel
theorem dX11_frame_24 : decode cX11_frame 24 = .ok (.aload_n 0, 1) := by decide +kernel
theorem dX11_frame_25 : decode cX11_frame 25 = .ok (.getfield 12, 3) := by decide +kernel
theorem dX11_frame_28 : decode cX11_frame 28 = .ok (.getfield 149, 3) := by decide +kernel
theorem dX11_frame_31 : decode cX11_frame 31 = .ok (.iload_n 1, 1) := by decide +kernel
theorem dX11_frame_32 : decode cX11_frame 32 = .ok (.iload_n 2, 1) := by decide +kernel
theorem dX11_frame_33 : decode cX11_frame 33 = .ok (.invokevirtual 157, 3) := by decide +kernel
theorem dX11_frame_36 : decode cX11_frame 36 = .ok (.ireturn, 1) := by decide +kernel
theorem dX11_sees_0 : decode cX11_sees 0 = .ok (.aload_n 0, 1) := by decide +kernel
theorem dX11_sees_1 : decode cX11_sees 1 = .ok (.getfield 12, 3) := by decide +kernel
theorem dX11_sees_4 : decode cX11_sees 4 = .ok (.getfield 149, 3) := by decide +kernel
theorem dX11_sees_7 : decode cX11_sees 7 = .ok (.iload_n 1, 1) := by decide +kernel
theorem dX11_sees_8 : decode cX11_sees 8 = .ok (.invokevirtual 156, 3) := by decide +kernel
theorem dX11_sees_11 : decode cX11_sees 11 = .ok (.ifCond .eq 14, 3) := by decide +kernel
theorem dX11_sees_14 : decode cX11_sees 14 = .ok (.iload_n 2, 1) := by decide +kernel
theorem dX11_sees_15 : decode cX11_sees 15 = .ok (.ldc 160, 2) := by decide +kernel
theorem dX11_sees_17 : decode cX11_sees 17 = .ok (.ldc 161, 2) := by decide +kernel
theorem dX11_sees_19 : decode cX11_sees 19 = .ok (.invokestatic 100, 3) := by decide +kernel
theorem dX11_sees_22 : decode cX11_sees 22 = .ok (.ifCond .ne 7, 3) := by decide +kernel
theorem dX11_sees_25 : decode cX11_sees 25 = .ok (.ldc2_w 127, 3) := by decide +kernel
theorem dX11_sees_28 : decode cX11_sees 28 = .ok (.lreturn, 1) := by decide +kernel
theorem dX11_sees_29 : decode cX11_sees 29 = .ok (.aload_n 0, 1) := by decide +kernel
theorem dX11_sees_30 : decode cX11_sees 30 = .ok (.getfield 12, 3) := by decide +kernel
theorem dX11_sees_33 : decode cX11_sees 33 = .ok (.getfield 149, 3) := by decide +kernel
theorem dX11_sees_36 : decode cX11_sees 36 = .ok (.iload_n 1, 1) := by decide +kernel
theorem dX11_sees_37 : decode cX11_sees 37 = .ok (.iload_n 2, 1) := by decide +kernel
theorem dX11_sees_38 : decode cX11_sees 38 = .ok (.invokevirtual 162, 3) := by decide +kernel
theorem dX11_sees_41 : decode cX11_sees 41 = .ok (.i2l, 1) := by decide +kernel
theorem dX11_sees_42 : decode cX11_sees 42 = .ok (.lreturn, 1) := by decide +kernel
theorem dX11_crosser_0 : decode cX11_crosser 0 = .ok (.aload_n 0, 1) := by decide +kernel
theorem dX11_crosser_1 : decode cX11_crosser 1 = .ok (.getfield 12, 3) := by decide +kernel
theorem dX11_crosser_4 : decode cX11_crosser 4 = .ok (.getfield 165, 3) := by decide +kernel
theorem dX11_crosser_7 : decode cX11_crosser 7 = .ok (.iload_n 1, 1) := by decide +kernel
theorem dX11_crosser_8 : decode cX11_crosser 8 = .ok (.iload_n 2, 1) := by decide +kernel
theorem dX11_crosser_9 : decode cX11_crosser 9 = .ok (.invokevirtual 169, 3) := by decide +kernel
theorem dX11_crosser_12 : decode cX11_crosser 12 = .ok (.ireturn, 1) := by decide +kernel
theorem dX11_feed_0 : decode cX11_feed 0 = .ok (.iload_n 1, 1) := by decide +kernel
theorem dX11_feed_1 : decode cX11_feed 1 = .ok (.iconst 1, 1) := by decide +kernel
theorem dX11_feed_2 : decode cX11_feed 2 = .ok (.bipush 8, 2) := by decide +kernel
theorem dX11_feed_4 : decode cX11_feed 4 = .ok (.invokestatic 100, 3) := by decide +kernel
theorem dX11_feed_7 : decode cX11_feed 7 = .ok (.ifCond .ne 6, 3) := by decide +kernel
theorem dX11_feed_10 : decode cX11_feed 10 = .ok (.bipush (-2), 2) := by decide +kernel
theorem dX11_feed_12 : decode cX11_feed 12 = .ok (.ireturn, 1) := by decide +kernel
theorem dX11_feed_13 : decode cX11_feed 13 = .ok (.aload_n 0, 1) := by decide +kernel
theorem dX11_feed_14 : decode cX11_feed 14 = .ok (.getfield 19, 3) := by decide +kernel
theorem dX11_feed_17 : decode cX11_feed 17 = .ok (.getfield 59, 3) := by decide +kernel
theorem dX11_feed_20 : decode cX11_feed 20 = .ok (.getfield 173, 3) := by decide +kernel
theorem dX11_feed_23 : decode cX11_feed 23 = .ok (.iload_n 1, 1) := by decide +kernel
theorem dX11_feed_24 : decode cX11_feed 24 = .ok (.iadd, 1) := by decide +kernel
theorem dX11_feed_25 : decode cX11_feed 25 = .ok (.sipush 160, 3) := by decide +kernel
theorem dX11_feed_28 : decode cX11_feed 28 = .ok (.if_icmp .le 6, 3) := by decide +kernel
theorem dX11_feed_31 : decode cX11_feed 31 = .ok (.bipush (-4), 2) := by decide +kernel
theorem dX11_feed_33 : decode cX11_feed 33 = .ok (.ireturn, 1) := by decide +kernel
theorem dX11_feed_34 : decode cX11_feed 34 = .ok (.iconst 0, 1) := by decide +kernel
theorem dX11_feed_35 : decode cX11_feed 35 = .ok (.istore 4, 2) := by decide +kernel
theorem dX11_feed_37 : decode cX11_feed 37 = .ok (.iload 4, 2) := by decide +kernel
theorem dX11_feed_39 : decode cX11_feed 39 = .ok (.iload_n 1, 1) := by decide +kernel
theorem dX11_feed_40 : decode cX11_feed 40 = .ok (.if_icmp .ge 31, 3) := by decide +kernel
theorem dX11_feed_43 : decode cX11_feed 43 = .ok (.aload_n 0, 1) := by decide +kernel
theorem dX11_feed_44 : decode cX11_feed 44 = .ok (.getfield 19, 3) := by decide +kernel
theorem dX11_feed_47 : decode cX11_feed 47 = .ok (.getfield 59, 3) := by decide +kernel
theorem dX11_feed_50 : decode cX11_feed 50 = .ok (.lload_n 2, 1) := by decide +kernel
theorem dX11_feed_51 : decode cX11_feed 51 = .ok (.bipush 8, 2) := by decide +kernel
theorem dX11_feed_53 : decode cX11_feed 53 = .ok (.iload 4, 2) := by decide +kernel
theorem dX11_feed_55 : decode cX11_feed 55 = .ok (.imul, 1) := by decide +kernel
theorem dX11_feed_56 : decode cX11_feed 56 = .ok (.lushr, 1) := by decide +kernel
theorem dX11_feed_57 : decode cX11_feed 57 = .ok (.l2i, 1) := by decide +kernel
theorem dX11_feed_58 : decode cX11_feed 58 = .ok (.sipush 255, 3) := by decide +kernel
theorem dX11_feed_61 : decode cX11_feed 61 = .ok (.iand, 1) := by decide +kernel
theorem dX11_feed_62 : decode cX11_feed 62 = .ok (.invokevirtual 67, 3) := by decide +kernel
theorem dX11_feed_65 : decode cX11_feed 65 = .ok (.iinc 4 1, 3) := by decide +kernel
theorem dX11_feed_68 : decode cX11_feed 68 = .ok (.goto (-31), 3) := by decide +kernel
theorem dX11_feed_71 : decode cX11_feed 71 = .ok (.aload_n 0, 1) := by decide +kernel
theorem dX11_feed_72 : decode cX11_feed 72 = .ok (.getfield 19, 3) := by decide +kernel
theorem dX11_feed_75 : decode cX11_feed 75 = .ok (.getfield 59, 3) := by decide +kernel
theorem dX11_feed_78 : decode cX11_feed 78 = .ok (.getfield 173, 3) := by decide +kernel
theorem dX11_feed_81 : decode cX11_feed 81 = .ok (.ireturn, 1) := by decide +kernel
theorem dX11_text_0 : decode cX11_text 0 = .ok (.aload_n 0, 1) := by decide +kernel
theorem dX11_text_1 : decode cX11_text 1 = .ok (.getfield 12, 3) := by decide +kernel
theorem dX11_text_4 : decode cX11_text 4 = .ok (.getfield 76, 3) := by decide +kernel
theorem dX11_text_7 : decode cX11_text 7 = .ok (.getfield 176, 3) := by decide +kernel
theorem dX11_text_10 : decode cX11_text 10 = .ok (.bipush 6, 2) := by decide +kernel
theorem dX11_text_12 : decode cX11_text 12 = .ok (.if_icmp .lt 6, 3) := by decide +kernel
theorem dX11_text_15 : decode cX11_text 15 = .ok (.bipush (-4), 2) := by decide +kernel
theorem dX11_text_17 : decode cX11_text 17 = .ok (.ireturn, 1) := by decide +kernel
theorem dX11_text_18 : decode cX11_text 18 = .ok (.aload_n 0, 1) := by decide +kernel
theorem dX11_text_19 : decode cX11_text 19 = .ok (.getfield 19, 3) := by decide +kernel
theorem dX11_text_22 : decode cX11_text 22 = .ok (.invokevirtual 73, 3) := by decide +kernel
theorem dX11_text_25 : decode cX11_text 25 = .ok (.istore_n 1, 1) := by decide +kernel
theorem dX11_text_26 : decode cX11_text 26 = .ok (.iload_n 1, 1) := by decide +kernel
theorem dX11_text_27 : decode cX11_text 27 = .ok (.iconst (-1), 1) := by decide +kernel
theorem dX11_text_28 : decode cX11_text 28 = .ok (.if_icmp .eq 8, 3) := by decide +kernel
theorem dX11_text_31 : decode cX11_text 31 = .ok (.bipush (-100), 2) := by decide +kernel
theorem dX11_text_33 : decode cX11_text 33 = .ok (.iload_n 1, 1) := by decide +kernel
theorem dX11_text_34 : decode cX11_text 34 = .ok (.isub, 1) := by decide +kernel
theorem dX11_text_35 : decode cX11_text 35 = .ok (.ireturn, 1) := by decide +kernel
theorem dX11_text_36 : decode cX11_text 36 = .ok (.aload_n 0, 1) := by decide +kernel
theorem dX11_text_37 : decode cX11_text 37 = .ok (.getfield 12, 3) := by decide +kernel
theorem dX11_text_40 : decode cX11_text 40 = .ok (.getfield 76, 3) := by decide +kernel
theorem dX11_text_43 : decode cX11_text 43 = .ok (.aload_n 0, 1) := by decide +kernel
theorem dX11_text_44 : decode cX11_text 44 = .ok (.getfield 19, 3) := by decide +kernel
theorem dX11_text_47 : decode cX11_text 47 = .ok (.invokevirtual 80, 3) := by decide +kernel
theorem dX11_text_50 : decode cX11_text 50 = .ok (.ireturn, 1) := by decide +kernel
theorem dX11_force_0 : decode cX11_force 0 = .ok (.aload_n 0, 1) := by decide +kernel
theorem dX11_force_1 : decode cX11_force 1 = .ok (.getfield 12, 3) := by decide +kernel
theorem dX11_force_4 : decode cX11_force 4 = .ok (.getfield 76, 3) := by decide +kernel
theorem dX11_force_7 : decode cX11_force 7 = .ok (.iload_n 1, 1) := by decide +kernel
theorem dX11_force_8 : decode cX11_force 8 = .ok (.invokevirtual 177, 3) := by decide +kernel
theorem dX11_force_11 : decode cX11_force 11 = .ok (.ifCond .ne 6, 3) := by decide +kernel
theorem dX11_force_14 : decode cX11_force 14 = .ok (.bipush (-2), 2) := by decide +kernel
theorem dX11_force_16 : decode cX11_force 16 = .ok (.ireturn, 1) := by decide +kernel
theorem dX11_force_17 : decode cX11_force 17 = .ok (.aload_n 0, 1) := by decide +kernel
theorem dX11_force_18 : decode cX11_force 18 = .ok (.getfield 12, 3) := by decide +kernel
theorem dX11_force_21 : decode cX11_force 21 = .ok (.getfield 76, 3) := by decide +kernel
theorem dX11_force_24 : decode cX11_force 24 = .ok (.getfield 178, 3) := by decide +kernel
theorem dX11_force_27 : decode cX11_force 27 = .ok (.istore_n 2, 1) := by decide +kernel
theorem dX11_force_28 : decode cX11_force 28 = .ok (.aload_n 0, 1) := by decide +kernel
theorem dX11_force_29 : decode cX11_force 29 = .ok (.getfield 12, 3) := by decide +kernel
theorem dX11_force_32 : decode cX11_force 32 = .ok (.getfield 76, 3) := by decide +kernel
theorem dX11_force_35 : decode cX11_force 35 = .ok (.iload_n 1, 1) := by decide +kernel
theorem dX11_force_36 : decode cX11_force 36 = .ok (.putfield 178, 3) := by decide +kernel
theorem dX11_force_39 : decode cX11_force 39 = .ok (.iload_n 2, 1) := by decide +kernel
theorem dX11_force_40 : decode cX11_force 40 = .ok (.ireturn, 1) := by decide +kernel
theorem dX11_says_0 : decode cX11_says 0 = .ok (.aload_n 0, 1) := by decide +kernel
theorem dX11_says_1 : decode cX11_says 1 = .ok (.getfield 12, 3) := by decide +kernel
theorem dX11_says_4 : decode cX11_says 4 = .ok (.getfield 86, 3) := by decide +kernel
theorem dX11_says_7 : decode cX11_says 7 = .ok (.iload_n 1, 1) := by decide +kernel
theorem dX11_says_8 : decode cX11_says 8 = .ok (.invokevirtual 93, 3) := by decide +kernel
theorem dX11_says_11 : decode cX11_says 11 = .ok (.ifCond .eq 27, 3) := by decide +kernel
theorem dX11_says_14 : decode cX11_says 14 = .ok (.iload_n 2, 1) := by decide +kernel
theorem dX11_says_15 : decode cX11_says 15 = .ok (.invokestatic 97, 3) := by decide +kernel
theorem dX11_says_18 : decode cX11_says 18 = .ok (.ifCond .eq 20, 3) := by decide +kernel
theorem dX11_says_21 : decode cX11_says 21 = .ok (.iload_n 3, 1) := by decide +kernel
theorem dX11_says_22 : decode cX11_says 22 = .ok (.invokestatic 124, 3) := by decide +kernel
theorem dX11_says_25 : decode cX11_says 25 = .ok (.ifCond .eq 13, 3) := by decide +kernel
theorem dX11_says_28 : decode cX11_says 28 = .ok (.iload 4, 2) := by decide +kernel
theorem dX11_says_30 : decode cX11_says 30 = .ok (.iconst 0, 1) := by decide +kernel
theorem dX11_says_31 : decode cX11_says 31 = .ok (.iconst 2, 1) := by decide +kernel
theorem dX11_says_32 : decode cX11_says 32 = .ok (.invokestatic 100, 3) := by decide +kernel
theorem dX11_says_35 : decode cX11_says 35 = .ok (.ifCond .ne 7, 3) := by decide +kernel
theorem dX11_says_38 : decode cX11_says 38 = .ok (.ldc2_w 127, 3) := by decide +kernel
theorem dX11_says_41 : decode cX11_says 41 = .ok (.lreturn, 1) := by decide +kernel
theorem dX11_says_42 : decode cX11_says 42 = .ok (.aload_n 0, 1) := by decide +kernel
theorem dX11_says_43 : decode cX11_says 43 = .ok (.getfield 12, 3) := by decide +kernel
theorem dX11_says_46 : decode cX11_says 46 = .ok (.aload_n 0, 1) := by decide +kernel
theorem dX11_says_47 : decode cX11_says 47 = .ok (.getfield 129, 3) := by decide +kernel
theorem dX11_says_50 : decode cX11_says 50 = .ok (.invokevirtual 133, 3) := by decide +kernel
theorem dX11_says_53 : decode cX11_says 53 = .ok (.aload_n 0, 1) := by decide +kernel
theorem dX11_says_54 : decode cX11_says 54 = .ok (.getfield 12, 3) := by decide +kernel
theorem dX11_says_57 : decode cX11_says 57 = .ok (.iload_n 1, 1) := by decide +kernel
theorem dX11_says_58 : decode cX11_says 58 = .ok (.iload_n 2, 1) := by decide +kernel
theorem dX11_says_59 : decode cX11_says 59 = .ok (.iload_n 3, 1) := by decide +kernel
theorem dX11_says_60 : decode cX11_says 60 = .ok (.iload 4, 2) := by decide +kernel
theorem dX11_says_62 : decode cX11_says 62 = .ok (.invokevirtual 181, 3) := by decide +kernel
theorem dX11_says_65 : decode cX11_says 65 = .ok (.i2l, 1) := by decide +kernel
theorem dX11_says_66 : decode cX11_says 66 = .ok (.lreturn, 1) := by decide +kernel
theorem dX11_width_0 : decode cX11_width 0 = .ok (.iload_n 1, 1) := by decide +kernel
theorem dX11_width_1 : decode cX11_width 1 = .ok (.invokestatic 185, 3) := by decide +kernel
theorem dX11_width_4 : decode cX11_width 4 = .ok (.ifCond .ne 6, 3) := by decide +kernel
theorem dX11_width_7 : decode cX11_width 7 = .ok (.bipush (-2), 2) := by decide +kernel
theorem dX11_width_9 : decode cX11_width 9 = .ok (.ireturn, 1) := by decide +kernel
theorem dX11_width_10 : decode cX11_width 10 = .ok (.aload_n 0, 1) := by decide +kernel
theorem dX11_width_11 : decode cX11_width 11 = .ok (.getfield 129, 3) := by decide +kernel
theorem dX11_width_14 : decode cX11_width 14 = .ok (.istore_n 2, 1) := by decide +kernel
theorem dX11_width_15 : decode cX11_width 15 = .ok (.aload_n 0, 1) := by decide +kernel
theorem dX11_width_16 : decode cX11_width 16 = .ok (.iload_n 1, 1) := by decide +kernel
theorem dX11_width_17 : decode cX11_width 17 = .ok (.putfield 129, 3) := by decide +kernel
theorem dX11_width_20 : decode cX11_width 20 = .ok (.iload_n 2, 1) := by decide +kernel
theorem dX11_width_21 : decode cX11_width 21 = .ok (.ireturn, 1) := by decide +kernel
theorem dX11_call_0 : decode cX11_call 0 = .ok (.aload_n 0, 1) := by decide +kernel
theorem dX11_call_1 : decode cX11_call 1 = .ok (.getfield 12, 3) := by decide +kernel
theorem dX11_call_4 : decode cX11_call 4 = .ok (.getfield 86, 3) := by decide +kernel
theorem dX11_call_7 : decode cX11_call 7 = .ok (.astore 6, 2) := by decide +kernel
theorem dX11_call_9 : decode cX11_call 9 = .ok (.iload_n 1, 1) := by decide +kernel
theorem dX11_call_10 : decode cX11_call 10 = .ok (.iconst 0, 1) := by decide +kernel
theorem dX11_call_11 : decode cX11_call 11 = .ok (.iconst 5, 1) := by decide +kernel
theorem dX11_call_12 : decode cX11_call 12 = .ok (.invokestatic 100, 3) := by decide +kernel
theorem dX11_call_15 : decode cX11_call 15 = .ok (.ifCond .eq 26, 3) := by decide +kernel
theorem dX11_call_18 : decode cX11_call 18 = .ok (.aload 6, 2) := by decide +kernel
theorem dX11_call_20 : decode cX11_call 20 = .ok (.iload_n 2, 1) := by decide +kernel
theorem dX11_call_21 : decode cX11_call 21 = .ok (.invokevirtual 93, 3) := by decide +kernel
theorem dX11_call_24 : decode cX11_call 24 = .ok (.ifCond .eq 17, 3) := by decide +kernel
theorem dX11_call_27 : decode cX11_call 27 = .ok (.aload 6, 2) := by decide +kernel
theorem dX11_call_29 : decode cX11_call 29 = .ok (.iload_n 3, 1) := by decide +kernel
theorem dX11_call_30 : decode cX11_call 30 = .ok (.invokevirtual 93, 3) := by decide +kernel
theorem dX11_call_33 : decode cX11_call 33 = .ok (.ifCond .eq 8, 3) := by decide +kernel
theorem dX11_call_36 : decode cX11_call 36 = .ok (.iload_n 2, 1) := by decide +kernel
theorem dX11_call_37 : decode cX11_call 37 = .ok (.iload_n 3, 1) := by decide +kernel
theorem dX11_call_38 : decode cX11_call 38 = .ok (.if_icmp .ne 6, 3) := by decide +kernel
theorem dX11_call_41 : decode cX11_call 41 = .ok (.bipush (-2), 2) := by decide +kernel
theorem dX11_call_43 : decode cX11_call 43 = .ok (.ireturn, 1) := by decide +kernel
theorem dX11_call_44 : decode cX11_call 44 = .ok (.iload 4, 2) := by decide +kernel
theorem dX11_call_46 : decode cX11_call 46 = .ok (.invokestatic 124, 3) := by decide +kernel
theorem dX11_call_49 : decode cX11_call 49 = .ok (.ifCond .eq 44, 3) := by decide +kernel
theorem dX11_call_52 : decode cX11_call 52 = .ok (.iload 5, 2) := by decide +kernel
theorem dX11_call_54 : decode cX11_call 54 = .ok (.ifCond .lt 39, 3) := by decide +kernel
theorem dX11_call_57 : decode cX11_call 57 = .ok (.aload_n 0, 1) := by decide +kernel
theorem dX11_call_58 : decode cX11_call 58 = .ok (.getfield 12, 3) := by decide +kernel
theorem dX11_call_61 : decode cX11_call 61 = .ok (.getfield 149, 3) := by decide +kernel
theorem dX11_call_64 : decode cX11_call 64 = .ok (.iload 5, 2) := by decide +kernel
theorem dX11_call_66 : decode cX11_call 66 = .ok (.bipush 10, 2) := by decide +kernel
theorem dX11_call_68 : decode cX11_call 68 = .ok (.idiv, 1) := by decide +kernel
theorem dX11_call_69 : decode cX11_call 69 = .ok (.invokevirtual 156, 3) := by decide +kernel
theorem dX11_call_72 : decode cX11_call 72 = .ok (.ifCond .eq 21, 3) := by decide +kernel
theorem dX11_call_75 : decode cX11_call 75 = .ok (.aload_n 0, 1) := by decide +kernel
theorem dX11_call_76 : decode cX11_call 76 = .ok (.getfield 12, 3) := by decide +kernel
theorem dX11_call_79 : decode cX11_call 79 = .ok (.getfield 165, 3) := by decide +kernel
theorem dX11_call_82 : decode cX11_call 82 = .ok (.iload 5, 2) := by decide +kernel
theorem dX11_call_84 : decode cX11_call 84 = .ok (.bipush 10, 2) := by decide +kernel
theorem dX11_call_86 : decode cX11_call 86 = .ok (.irem, 1) := by decide +kernel
theorem dX11_call_87 : decode cX11_call 87 = .ok (.invokevirtual 188, 3) := by decide +kernel
theorem dX11_call_90 : decode cX11_call 90 = .ok (.ifCond .ne 6, 3) := by decide +kernel
theorem dX11_call_93 : decode cX11_call 93 = .ok (.bipush (-2), 2) := by decide +kernel
theorem dX11_call_95 : decode cX11_call 95 = .ok (.ireturn, 1) := by decide +kernel
theorem dX11_call_96 : decode cX11_call 96 = .ok (.aload_n 0, 1) := by decide +kernel
theorem dX11_call_97 : decode cX11_call 97 = .ok (.getfield 12, 3) := by decide +kernel
theorem dX11_call_100 : decode cX11_call 100 = .ok (.getfield 189, 3) := by decide +kernel
theorem dX11_call_103 : decode cX11_call 103 = .ok (.iload_n 1, 1) := by decide +kernel
theorem dX11_call_104 : decode cX11_call 104 = .ok (.iload_n 2, 1) := by decide +kernel
theorem dX11_call_105 : decode cX11_call 105 = .ok (.iload_n 3, 1) := by decide +kernel
theorem dX11_call_106 : decode cX11_call 106 = .ok (.iload 4, 2) := by decide +kernel
theorem dX11_call_108 : decode cX11_call 108 = .ok (.iload 5, 2) := by decide +kernel
theorem dX11_call_110 : decode cX11_call 110 = .ok (.aload 6, 2) := by decide +kernel
theorem dX11_call_112 : decode cX11_call 112 = .ok (.getfield 193, 3) := by decide +kernel
theorem dX11_call_115 : decode cX11_call 115 = .ok (.iload_n 2, 1) := by decide +kernel
theorem dX11_call_116 : decode cX11_call 116 = .ok (.iaload, 1) := by decide +kernel
theorem dX11_call_117 : decode cX11_call 117 = .ok (.invokevirtual 196, 3) := by decide +kernel
theorem dX11_call_120 : decode cX11_call 120 = .ok (.ireturn, 1) := by decide +kernel
theorem dX11_told_0 : decode cX11_told 0 = .ok (.aload_n 0, 1) := by decide +kernel
theorem dX11_told_1 : decode cX11_told 1 = .ok (.getfield 12, 3) := by decide +kernel
theorem dX11_told_4 : decode cX11_told 4 = .ok (.getfield 189, 3) := by decide +kernel
theorem dX11_told_7 : decode cX11_told 7 = .ok (.iload_n 1, 1) := by decide +kernel
theorem dX11_told_8 : decode cX11_told 8 = .ok (.invokevirtual 201, 3) := by decide +kernel
theorem dX11_told_11 : decode cX11_told 11 = .ok (.ifCond .ne 7, 3) := by decide +kernel
theorem dX11_told_14 : decode cX11_told 14 = .ok (.ldc2_w 127, 3) := by decide +kernel
theorem dX11_told_17 : decode cX11_told 17 = .ok (.lreturn, 1) := by decide +kernel
theorem dX11_told_18 : decode cX11_told 18 = .ok (.aload_n 0, 1) := by decide +kernel
theorem dX11_told_19 : decode cX11_told 19 = .ok (.getfield 12, 3) := by decide +kernel
theorem dX11_told_22 : decode cX11_told 22 = .ok (.aload_n 0, 1) := by decide +kernel
theorem dX11_told_23 : decode cX11_told 23 = .ok (.getfield 129, 3) := by decide +kernel
theorem dX11_told_26 : decode cX11_told 26 = .ok (.invokevirtual 133, 3) := by decide +kernel
theorem dX11_told_29 : decode cX11_told 29 = .ok (.aload_n 0, 1) := by decide +kernel
theorem dX11_told_30 : decode cX11_told 30 = .ok (.getfield 12, 3) := by decide +kernel
theorem dX11_told_33 : decode cX11_told 33 = .ok (.getfield 189, 3) := by decide +kernel
theorem dX11_told_36 : decode cX11_told 36 = .ok (.getfield 202, 3) := by decide +kernel
theorem dX11_told_39 : decode cX11_told 39 = .ok (.iload_n 1, 1) := by decide +kernel
theorem dX11_told_40 : decode cX11_told 40 = .ok (.iaload, 1) := by decide +kernel
theorem dX11_told_41 : decode cX11_told 41 = .ok (.istore_n 3, 1) := by decide +kernel
theorem dX11_told_42 : decode cX11_told 42 = .ok (.iload_n 2, 1) := by decide +kernel
theorem dX11_told_43 : decode cX11_told 43 = .ok (.tableswitch 190 0 9 #[53, 56, 67, 78, 105, 123, 150, 160, 170, 180], 53) := by decide +kernel
theorem dX11_told_96 : decode cX11_told 96 = .ok (.iload_n 3, 1) := by decide +kernel
theorem dX11_told_97 : decode cX11_told 97 = .ok (.i2l, 1) := by decide +kernel
theorem dX11_told_98 : decode cX11_told 98 = .ok (.lreturn, 1) := by decide +kernel
theorem dX11_told_99 : decode cX11_told 99 = .ok (.aload_n 0, 1) := by decide +kernel
theorem dX11_told_100 : decode cX11_told 100 = .ok (.getfield 12, 3) := by decide +kernel
theorem dX11_told_103 : decode cX11_told 103 = .ok (.iload_n 3, 1) := by decide +kernel
theorem dX11_told_104 : decode cX11_told 104 = .ok (.iload_n 1, 1) := by decide +kernel
theorem dX11_told_105 : decode cX11_told 105 = .ok (.invokevirtual 205, 3) := by decide +kernel
theorem dX11_told_108 : decode cX11_told 108 = .ok (.i2l, 1) := by decide +kernel
theorem dX11_told_109 : decode cX11_told 109 = .ok (.lreturn, 1) := by decide +kernel
theorem dX11_told_110 : decode cX11_told 110 = .ok (.aload_n 0, 1) := by decide +kernel
theorem dX11_told_111 : decode cX11_told 111 = .ok (.getfield 12, 3) := by decide +kernel
theorem dX11_told_114 : decode cX11_told 114 = .ok (.iload_n 3, 1) := by decide +kernel
theorem dX11_told_115 : decode cX11_told 115 = .ok (.iload_n 1, 1) := by decide +kernel
theorem dX11_told_116 : decode cX11_told 116 = .ok (.invokevirtual 208, 3) := by decide +kernel
theorem dX11_told_119 : decode cX11_told 119 = .ok (.i2l, 1) := by decide +kernel
theorem dX11_told_120 : decode cX11_told 120 = .ok (.lreturn, 1) := by decide +kernel
theorem dX11_told_121 : decode cX11_told 121 = .ok (.aload_n 0, 1) := by decide +kernel
theorem dX11_told_122 : decode cX11_told 122 = .ok (.getfield 12, 3) := by decide +kernel
theorem dX11_told_125 : decode cX11_told 125 = .ok (.iload_n 3, 1) := by decide +kernel
theorem dX11_told_126 : decode cX11_told 126 = .ok (.iload_n 1, 1) := by decide +kernel
theorem dX11_told_127 : decode cX11_told 127 = .ok (.invokevirtual 205, 3) := by decide +kernel
theorem dX11_told_130 : decode cX11_told 130 = .ok (.aload_n 0, 1) := by decide +kernel
theorem dX11_told_131 : decode cX11_told 131 = .ok (.getfield 12, 3) := by decide +kernel
theorem dX11_told_134 : decode cX11_told 134 = .ok (.iload_n 3, 1) := by decide +kernel
theorem dX11_told_135 : decode cX11_told 135 = .ok (.iload_n 1, 1) := by decide +kernel
theorem dX11_told_136 : decode cX11_told 136 = .ok (.invokevirtual 208, 3) := by decide +kernel
theorem dX11_told_139 : decode cX11_told 139 = .ok (.if_icmp .le 7, 3) := by decide +kernel
theorem dX11_told_142 : decode cX11_told 142 = .ok (.lconst 1, 1) := by decide +kernel
theorem dX11_told_143 : decode cX11_told 143 = .ok (.goto 4, 3) := by decide +kernel
theorem dX11_told_146 : decode cX11_told 146 = .ok (.lconst 0, 1) := by decide +kernel
theorem dX11_told_147 : decode cX11_told 147 = .ok (.lreturn, 1) := by decide +kernel
theorem dX11_told_148 : decode cX11_told 148 = .ok (.aload_n 0, 1) := by decide +kernel
theorem dX11_told_149 : decode cX11_told 149 = .ok (.getfield 12, 3) := by decide +kernel
theorem dX11_told_152 : decode cX11_told 152 = .ok (.iload_n 3, 1) := by decide +kernel
theorem dX11_told_153 : decode cX11_told 153 = .ok (.iload_n 1, 1) := by decide +kernel
theorem dX11_told_154 : decode cX11_told 154 = .ok (.invokevirtual 211, 3) := by decide +kernel
theorem dX11_told_157 : decode cX11_told 157 = .ok (.ifCond .eq 7, 3) := by decide +kernel
theorem dX11_told_160 : decode cX11_told 160 = .ok (.lconst 1, 1) := by decide +kernel
theorem dX11_told_161 : decode cX11_told 161 = .ok (.goto 4, 3) := by decide +kernel
theorem dX11_told_164 : decode cX11_told 164 = .ok (.lconst 0, 1) := by decide +kernel
theorem dX11_told_165 : decode cX11_told 165 = .ok (.lreturn, 1) := by decide +kernel
theorem dX11_told_166 : decode cX11_told 166 = .ok (.aload_n 0, 1) := by decide +kernel
theorem dX11_told_167 : decode cX11_told 167 = .ok (.getfield 12, 3) := by decide +kernel
theorem dX11_told_170 : decode cX11_told 170 = .ok (.iload_n 3, 1) := by decide +kernel
theorem dX11_told_171 : decode cX11_told 171 = .ok (.iload_n 1, 1) := by decide +kernel
theorem dX11_told_172 : decode cX11_told 172 = .ok (.invokevirtual 211, 3) := by decide +kernel
theorem dX11_told_175 : decode cX11_told 175 = .ok (.aload_n 0, 1) := by decide +kernel
theorem dX11_told_176 : decode cX11_told 176 = .ok (.getfield 12, 3) := by decide +kernel
theorem dX11_told_179 : decode cX11_told 179 = .ok (.iconst 0, 1) := by decide +kernel
theorem dX11_told_180 : decode cX11_told 180 = .ok (.iload_n 1, 1) := by decide +kernel
theorem dX11_told_181 : decode cX11_told 181 = .ok (.invokevirtual 211, 3) := by decide +kernel
theorem dX11_told_184 : decode cX11_told 184 = .ok (.if_icmp .eq 7, 3) := by decide +kernel
theorem dX11_told_187 : decode cX11_told 187 = .ok (.lconst 1, 1) := by decide +kernel
theorem dX11_told_188 : decode cX11_told 188 = .ok (.goto 4, 3) := by decide +kernel
theorem dX11_told_191 : decode cX11_told 191 = .ok (.lconst 0, 1) := by decide +kernel
theorem dX11_told_192 : decode cX11_told 192 = .ok (.lreturn, 1) := by decide +kernel
theorem dX11_told_193 : decode cX11_told 193 = .ok (.aload_n 0, 1) := by decide +kernel
theorem dX11_told_194 : decode cX11_told 194 = .ok (.getfield 12, 3) := by decide +kernel
theorem dX11_told_197 : decode cX11_told 197 = .ok (.iload_n 1, 1) := by decide +kernel
theorem dX11_told_198 : decode cX11_told 198 = .ok (.invokevirtual 215, 3) := by decide +kernel
theorem dX11_told_201 : decode cX11_told 201 = .ok (.i2l, 1) := by decide +kernel
theorem dX11_told_202 : decode cX11_told 202 = .ok (.lreturn, 1) := by decide +kernel
theorem dX11_told_203 : decode cX11_told 203 = .ok (.aload_n 0, 1) := by decide +kernel
theorem dX11_told_204 : decode cX11_told 204 = .ok (.getfield 12, 3) := by decide +kernel
theorem dX11_told_207 : decode cX11_told 207 = .ok (.iload_n 1, 1) := by decide +kernel
theorem dX11_told_208 : decode cX11_told 208 = .ok (.invokevirtual 218, 3) := by decide +kernel
theorem dX11_told_211 : decode cX11_told 211 = .ok (.i2l, 1) := by decide +kernel
theorem dX11_told_212 : decode cX11_told 212 = .ok (.lreturn, 1) := by decide +kernel
theorem dX11_told_213 : decode cX11_told 213 = .ok (.aload_n 0, 1) := by decide +kernel
theorem dX11_told_214 : decode cX11_told 214 = .ok (.getfield 12, 3) := by decide +kernel
theorem dX11_told_217 : decode cX11_told 217 = .ok (.iload_n 1, 1) := by decide +kernel
theorem dX11_told_218 : decode cX11_told 218 = .ok (.invokevirtual 221, 3) := by decide +kernel
theorem dX11_told_221 : decode cX11_told 221 = .ok (.i2l, 1) := by decide +kernel
theorem dX11_told_222 : decode cX11_told 222 = .ok (.lreturn, 1) := by decide +kernel
theorem dX11_told_223 : decode cX11_told 223 = .ok (.aload_n 0, 1) := by decide +kernel
theorem dX11_told_224 : decode cX11_told 224 = .ok (.getfield 12, 3) := by decide +kernel
theorem dX11_told_227 : decode cX11_told 227 = .ok (.iload_n 1, 1) := by decide +kernel
theorem dX11_told_228 : decode cX11_told 228 = .ok (.invokevirtual 224, 3) := by decide +kernel
theorem dX11_told_231 : decode cX11_told 231 = .ok (.i2l, 1) := by decide +kernel
theorem dX11_told_232 : decode cX11_told 232 = .ok (.lreturn, 1) := by decide +kernel
theorem dX11_told_233 : decode cX11_told 233 = .ok (.ldc2_w 127, 3) := by decide +kernel
theorem dX11_told_236 : decode cX11_told 236 = .ok (.lreturn, 1) := by decide +kernel
theorem dX11_offside_0 : decode cX11_offside 0 = .ok (.aload_n 0, 1) := by decide +kernel
theorem dX11_offside_1 : decode cX11_offside 1 = .ok (.getfield 12, 3) := by decide +kernel
theorem dX11_offside_4 : decode cX11_offside 4 = .ok (.aload_n 0, 1) := by decide +kernel
theorem dX11_offside_5 : decode cX11_offside 5 = .ok (.getfield 129, 3) := by decide +kernel
theorem dX11_offside_8 : decode cX11_offside 8 = .ok (.invokevirtual 133, 3) := by decide +kernel
theorem dX11_offside_11 : decode cX11_offside 11 = .ok (.aload_n 0, 1) := by decide +kernel
theorem dX11_offside_12 : decode cX11_offside 12 = .ok (.getfield 12, 3) := by decide +kernel
theorem dX11_offside_15 : decode cX11_offside 15 = .ok (.aload_n 0, 1) := by decide +kernel
theorem dX11_offside_16 : decode cX11_offside 16 = .ok (.getfield 12, 3) := by decide +kernel
theorem dX11_offside_19 : decode cX11_offside 19 = .ok (.getfield 189, 3) := by decide +kernel
theorem dX11_offside_22 : decode cX11_offside 22 = .ok (.invokevirtual 227, 3) := by decide +kernel
theorem dX11_offside_25 : decode cX11_offside 25 = .ok (.invokevirtual 230, 3) := by decide +kernel
theorem dX11_offside_28 : decode cX11_offside 28 = .ok (.ireturn, 1) := by decide +kernel
theorem dX11_wrong_0 : decode cX11_wrong 0 = .ok (.iload_n 1, 1) := by decide +kernel
theorem dX11_wrong_1 : decode cX11_wrong 1 = .ok (.invokestatic 233, 3) := by decide +kernel
theorem dX11_wrong_4 : decode cX11_wrong 4 = .ok (.ifCond .eq 27, 3) := by decide +kernel
theorem dX11_wrong_7 : decode cX11_wrong 7 = .ok (.aload_n 0, 1) := by decide +kernel
theorem dX11_wrong_8 : decode cX11_wrong 8 = .ok (.getfield 12, 3) := by decide +kernel
theorem dX11_wrong_11 : decode cX11_wrong 11 = .ok (.getfield 189, 3) := by decide +kernel
theorem dX11_wrong_14 : decode cX11_wrong 14 = .ok (.iload_n 2, 1) := by decide +kernel
theorem dX11_wrong_15 : decode cX11_wrong 15 = .ok (.invokevirtual 236, 3) := by decide +kernel
theorem dX11_wrong_18 : decode cX11_wrong 18 = .ok (.ifCond .eq 13, 3) := by decide +kernel
theorem dX11_wrong_21 : decode cX11_wrong 21 = .ok (.iload 4, 2) := by decide +kernel
theorem dX11_wrong_23 : decode cX11_wrong 23 = .ok (.iconst 0, 1) := by decide +kernel
theorem dX11_wrong_24 : decode cX11_wrong 24 = .ok (.iconst 1, 1) := by decide +kernel
theorem dX11_wrong_25 : decode cX11_wrong 25 = .ok (.invokestatic 100, 3) := by decide +kernel
theorem dX11_wrong_28 : decode cX11_wrong 28 = .ok (.ifCond .ne 6, 3) := by decide +kernel
theorem dX11_wrong_31 : decode cX11_wrong 31 = .ok (.bipush (-2), 2) := by decide +kernel
theorem dX11_wrong_33 : decode cX11_wrong 33 = .ok (.ireturn, 1) := by decide +kernel
theorem dX11_wrong_34 : decode cX11_wrong 34 = .ok (.aload_n 0, 1) := by decide +kernel
theorem dX11_wrong_35 : decode cX11_wrong 35 = .ok (.getfield 40, 3) := by decide +kernel
theorem dX11_wrong_38 : decode cX11_wrong 38 = .ok (.iload_n 1, 1) := by decide +kernel
theorem dX11_wrong_39 : decode cX11_wrong 39 = .ok (.invokevirtual 239, 3) := by decide +kernel
theorem dX11_wrong_42 : decode cX11_wrong 42 = .ok (.istore 5, 2) := by decide +kernel
theorem dX11_wrong_44 : decode cX11_wrong 44 = .ok (.iload 5, 2) := by decide +kernel
theorem dX11_wrong_46 : decode cX11_wrong 46 = .ok (.ifCond .eq 6, 3) := by decide +kernel
theorem dX11_wrong_49 : decode cX11_wrong 49 = .ok (.iload 5, 2) := by decide +kernel
theorem dX11_wrong_51 : decode cX11_wrong 51 = .ok (.ireturn, 1) := by decide +kernel
theorem dX11_wrong_52 : decode cX11_wrong 52 = .ok (.aload_n 0, 1) := by decide +kernel
theorem dX11_wrong_53 : decode cX11_wrong 53 = .ok (.getfield 40, 3) := by decide +kernel
theorem dX11_wrong_56 : decode cX11_wrong 56 = .ok (.iload_n 1, 1) := by decide +kernel
theorem dX11_wrong_57 : decode cX11_wrong 57 = .ok (.iload_n 3, 1) := by decide +kernel
theorem dX11_wrong_58 : decode cX11_wrong 58 = .ok (.invokevirtual 242, 3) := by decide +kernel
theorem dX11_wrong_61 : decode cX11_wrong 61 = .ok (.ifCond .ne 5, 3) := by decide +kernel
theorem dX11_wrong_64 : decode cX11_wrong 64 = .ok (.iconst (-1), 1) := by decide +kernel
theorem dX11_wrong_65 : decode cX11_wrong 65 = .ok (.ireturn, 1) := by decide +kernel
theorem dX11_wrong_66 : decode cX11_wrong 66 = .ok (.aload_n 0, 1) := by decide +kernel
theorem dX11_wrong_67 : decode cX11_wrong 67 = .ok (.getfield 12, 3) := by decide +kernel
theorem dX11_wrong_70 : decode cX11_wrong 70 = .ok (.aload_n 0, 1) := by decide +kernel
theorem dX11_wrong_71 : decode cX11_wrong 71 = .ok (.getfield 40, 3) := by decide +kernel
theorem dX11_wrong_74 : decode cX11_wrong 74 = .ok (.iload_n 1, 1) := by decide +kernel
theorem dX11_wrong_75 : decode cX11_wrong 75 = .ok (.iload_n 3, 1) := by decide +kernel
theorem dX11_wrong_76 : decode cX11_wrong 76 = .ok (.invokevirtual 244, 3) := by decide +kernel
theorem dX11_wrong_79 : decode cX11_wrong 79 = .ok (.invokevirtual 133, 3) := by decide +kernel
theorem dX11_wrong_82 : decode cX11_wrong 82 = .ok (.aload_n 0, 1) := by decide +kernel
theorem dX11_wrong_83 : decode cX11_wrong 83 = .ok (.getfield 12, 3) := by decide +kernel
theorem dX11_wrong_86 : decode cX11_wrong 86 = .ok (.iload_n 2, 1) := by decide +kernel
theorem dX11_wrong_87 : decode cX11_wrong 87 = .ok (.invokevirtual 247, 3) := by decide +kernel
theorem dX11_wrong_90 : decode cX11_wrong 90 = .ok (.iload 4, 2) := by decide +kernel
theorem dX11_wrong_92 : decode cX11_wrong 92 = .ok (.ifCond .ne 13, 3) := by decide +kernel
theorem dX11_wrong_95 : decode cX11_wrong 95 = .ok (.aload_n 0, 1) := by decide +kernel
theorem dX11_wrong_96 : decode cX11_wrong 96 = .ok (.getfield 12, 3) := by decide +kernel
theorem dX11_wrong_99 : decode cX11_wrong 99 = .ok (.getfield 250, 3) := by decide +kernel
theorem dX11_wrong_102 : decode cX11_wrong 102 = .ok (.goto 10, 3) := by decide +kernel
theorem dX11_wrong_105 : decode cX11_wrong 105 = .ok (.aload_n 0, 1) := by decide +kernel
theorem dX11_wrong_106 : decode cX11_wrong 106 = .ok (.getfield 12, 3) := by decide +kernel
theorem dX11_wrong_109 : decode cX11_wrong 109 = .ok (.getfield 253, 3) := by decide +kernel
theorem dX11_wrong_112 : decode cX11_wrong 112 = .ok (.ireturn, 1) := by decide +kernel
theorem dX11_best_0 : decode cX11_best 0 = .ok (.iload_n 1, 1) := by decide +kernel
theorem dX11_best_1 : decode cX11_best 1 = .ok (.invokestatic 233, 3) := by decide +kernel
theorem dX11_best_4 : decode cX11_best 4 = .ok (.ifCond .eq 28, 3) := by decide +kernel
theorem dX11_best_7 : decode cX11_best 7 = .ok (.aload_n 0, 1) := by decide +kernel
theorem dX11_best_8 : decode cX11_best 8 = .ok (.getfield 12, 3) := by decide +kernel
theorem dX11_best_11 : decode cX11_best 11 = .ok (.getfield 189, 3) := by decide +kernel
theorem dX11_best_14 : decode cX11_best 14 = .ok (.iload_n 2, 1) := by decide +kernel
theorem dX11_best_15 : decode cX11_best 15 = .ok (.invokevirtual 236, 3) := by decide +kernel
theorem dX11_best_18 : decode cX11_best 18 = .ok (.ifCond .eq 14, 3) := by decide +kernel
theorem dX11_best_21 : decode cX11_best 21 = .ok (.iload_n 3, 1) := by decide +kernel
theorem dX11_best_22 : decode cX11_best 22 = .ok (.iconst 0, 1) := by decide +kernel
theorem dX11_best_23 : decode cX11_best 23 = .ok (.sipush 9999, 3) := by decide +kernel
theorem dX11_best_26 : decode cX11_best 26 = .ok (.invokestatic 100, 3) := by decide +kernel
theorem dX11_best_29 : decode cX11_best 29 = .ok (.ifCond .ne 6, 3) := by decide +kernel
theorem dX11_best_32 : decode cX11_best 32 = .ok (.bipush (-2), 2) := by decide +kernel
theorem dX11_best_34 : decode cX11_best 34 = .ok (.ireturn, 1) := by decide +kernel
theorem dX11_best_35 : decode cX11_best 35 = .ok (.aload_n 0, 1) := by decide +kernel
theorem dX11_best_36 : decode cX11_best 36 = .ok (.getfield 40, 3) := by decide +kernel
theorem dX11_best_39 : decode cX11_best 39 = .ok (.iload_n 1, 1) := by decide +kernel
theorem dX11_best_40 : decode cX11_best 40 = .ok (.invokevirtual 239, 3) := by decide +kernel
theorem dX11_best_43 : decode cX11_best 43 = .ok (.istore 4, 2) := by decide +kernel
theorem dX11_best_45 : decode cX11_best 45 = .ok (.iload 4, 2) := by decide +kernel
theorem dX11_best_47 : decode cX11_best 47 = .ok (.ifCond .eq 6, 3) := by decide +kernel
theorem dX11_best_50 : decode cX11_best 50 = .ok (.iload 4, 2) := by decide +kernel
theorem dX11_best_52 : decode cX11_best 52 = .ok (.ireturn, 1) := by decide +kernel
theorem dX11_best_53 : decode cX11_best 53 = .ok (.aload_n 0, 1) := by decide +kernel
theorem dX11_best_54 : decode cX11_best 54 = .ok (.getfield 40, 3) := by decide +kernel
theorem dX11_best_57 : decode cX11_best 57 = .ok (.iload_n 1, 1) := by decide +kernel
theorem dX11_best_58 : decode cX11_best 58 = .ok (.iconst 0, 1) := by decide +kernel
theorem dX11_best_59 : decode cX11_best 59 = .ok (.invokevirtual 244, 3) := by decide +kernel
theorem dX11_best_62 : decode cX11_best 62 = .ok (.istore 5, 2) := by decide +kernel
theorem dX11_best_64 : decode cX11_best 64 = .ok (.iconst 0, 1) := by decide +kernel
theorem dX11_best_65 : decode cX11_best 65 = .ok (.istore 6, 2) := by decide +kernel
theorem dX11_best_67 : decode cX11_best 67 = .ok (.iconst 0, 1) := by decide +kernel
theorem dX11_best_68 : decode cX11_best 68 = .ok (.istore 7, 2) := by decide +kernel
theorem dX11_best_70 : decode cX11_best 70 = .ok (.iload 7, 2) := by decide +kernel
theorem dX11_best_72 : decode cX11_best 72 = .ok (.aload_n 0, 1) := by decide +kernel
theorem dX11_best_73 : decode cX11_best 73 = .ok (.getfield 40, 3) := by decide +kernel
theorem dX11_best_76 : decode cX11_best 76 = .ok (.getfield 256, 3) := by decide +kernel
theorem dX11_best_79 : decode cX11_best 79 = .ok (.iload_n 1, 1) := by decide +kernel
theorem dX11_best_80 : decode cX11_best 80 = .ok (.iaload, 1) := by decide +kernel
theorem dX11_best_81 : decode cX11_best 81 = .ok (.if_icmp .ge 85, 3) := by decide +kernel
theorem dX11_best_84 : decode cX11_best 84 = .ok (.aload_n 0, 1) := by decide +kernel
theorem dX11_best_85 : decode cX11_best 85 = .ok (.getfield 40, 3) := by decide +kernel
theorem dX11_best_88 : decode cX11_best 88 = .ok (.iload_n 1, 1) := by decide +kernel
theorem dX11_best_89 : decode cX11_best 89 = .ok (.iload 7, 2) := by decide +kernel
theorem dX11_best_91 : decode cX11_best 91 = .ok (.invokevirtual 244, 3) := by decide +kernel
theorem dX11_best_94 : decode cX11_best 94 = .ok (.istore 8, 2) := by decide +kernel
theorem dX11_best_96 : decode cX11_best 96 = .ok (.aload_n 0, 1) := by decide +kernel
theorem dX11_best_97 : decode cX11_best 97 = .ok (.getfield 12, 3) := by decide +kernel
theorem dX11_best_100 : decode cX11_best 100 = .ok (.iload 8, 2) := by decide +kernel
theorem dX11_best_102 : decode cX11_best 102 = .ok (.invokevirtual 133, 3) := by decide +kernel
theorem dX11_best_105 : decode cX11_best 105 = .ok (.aload_n 0, 1) := by decide +kernel
theorem dX11_best_106 : decode cX11_best 106 = .ok (.getfield 12, 3) := by decide +kernel
theorem dX11_best_109 : decode cX11_best 109 = .ok (.iload_n 2, 1) := by decide +kernel
theorem dX11_best_110 : decode cX11_best 110 = .ok (.invokevirtual 247, 3) := by decide +kernel
theorem dX11_best_113 : decode cX11_best 113 = .ok (.iload_n 3, 1) := by decide +kernel
theorem dX11_best_114 : decode cX11_best 114 = .ok (.bipush 100, 2) := by decide +kernel
theorem dX11_best_116 : decode cX11_best 116 = .ok (.idiv, 1) := by decide +kernel
theorem dX11_best_117 : decode cX11_best 117 = .ok (.aload_n 0, 1) := by decide +kernel
theorem dX11_best_118 : decode cX11_best 118 = .ok (.getfield 12, 3) := by decide +kernel
theorem dX11_best_121 : decode cX11_best 121 = .ok (.getfield 250, 3) := by decide +kernel
theorem dX11_best_124 : decode cX11_best 124 = .ok (.imul, 1) := by decide +kernel
theorem dX11_best_125 : decode cX11_best 125 = .ok (.iload_n 3, 1) := by decide +kernel
theorem dX11_best_126 : decode cX11_best 126 = .ok (.bipush 100, 2) := by decide +kernel
theorem dX11_best_128 : decode cX11_best 128 = .ok (.irem, 1) := by decide +kernel
theorem dX11_best_129 : decode cX11_best 129 = .ok (.aload_n 0, 1) := by decide +kernel
theorem dX11_best_130 : decode cX11_best 130 = .ok (.getfield 12, 3) := by decide +kernel
theorem dX11_best_133 : decode cX11_best 133 = .ok (.getfield 253, 3) := by decide +kernel
theorem dX11_best_136 : decode cX11_best 136 = .ok (.imul, 1) := by decide +kernel
theorem dX11_best_137 : decode cX11_best 137 = .ok (.iadd, 1) := by decide +kernel
theorem dX11_best_138 : decode cX11_best 138 = .ok (.istore 9, 2) := by decide +kernel
theorem dX11_best_140 : decode cX11_best 140 = .ok (.iload 7, 2) := by decide +kernel
theorem dX11_best_142 : decode cX11_best 142 = .ok (.ifCond .eq 10, 3) := by decide +kernel
theorem dX11_best_145 : decode cX11_best 145 = .ok (.iload 9, 2) := by decide +kernel
theorem dX11_best_147 : decode cX11_best 147 = .ok (.iload 6, 2) := by decide +kernel
theorem dX11_best_149 : decode cX11_best 149 = .ok (.if_icmp .ge 11, 3) := by decide +kernel
theorem dX11_best_152 : decode cX11_best 152 = .ok (.iload 9, 2) := by decide +kernel
theorem dX11_best_154 : decode cX11_best 154 = .ok (.istore 6, 2) := by decide +kernel
theorem dX11_best_156 : decode cX11_best 156 = .ok (.iload 8, 2) := by decide +kernel
theorem dX11_best_158 : decode cX11_best 158 = .ok (.istore 5, 2) := by decide +kernel
theorem dX11_best_160 : decode cX11_best 160 = .ok (.iinc 7 1, 3) := by decide +kernel
theorem dX11_best_163 : decode cX11_best 163 = .ok (.goto (-93), 3) := by decide +kernel
theorem dX11_best_166 : decode cX11_best 166 = .ok (.iload 5, 2) := by decide +kernel
theorem dX11_best_168 : decode cX11_best 168 = .ok (.ireturn, 1) := by decide +kernel
theorem dX11_match_0 : decode cX11_match 0 = .ok (.iload_n 1, 1) := by decide +kernel
theorem dX11_match_1 : decode cX11_match 1 = .ok (.ifCond .lt 34, 3) := by decide +kernel
theorem dX11_match_4 : decode cX11_match 4 = .ok (.iload_n 1, 1) := by decide +kernel
theorem dX11_match_5 : decode cX11_match 5 = .ok (.bipush 10, 2) := by decide +kernel
theorem dX11_match_7 : decode cX11_match 7 = .ok (.idiv, 1) := by decide +kernel
theorem dX11_match_8 : decode cX11_match 8 = .ok (.invokestatic 258, 3) := by decide +kernel
theorem dX11_match_11 : decode cX11_match 11 = .ok (.ifCond .eq 24, 3) := by decide +kernel
theorem dX11_match_14 : decode cX11_match 14 = .ok (.iload_n 1, 1) := by decide +kernel
theorem dX11_match_15 : decode cX11_match 15 = .ok (.bipush 10, 2) := by decide +kernel
theorem dX11_match_17 : decode cX11_match 17 = .ok (.irem, 1) := by decide +kernel
theorem dX11_match_18 : decode cX11_match 18 = .ok (.invokestatic 258, 3) := by decide +kernel
theorem dX11_match_21 : decode cX11_match 21 = .ok (.ifCond .eq 14, 3) := by decide +kernel
theorem dX11_match_24 : decode cX11_match 24 = .ok (.iload_n 1, 1) := by decide +kernel
theorem dX11_match_25 : decode cX11_match 25 = .ok (.bipush 10, 2) := by decide +kernel
theorem dX11_match_27 : decode cX11_match 27 = .ok (.idiv, 1) := by decide +kernel
theorem dX11_match_28 : decode cX11_match 28 = .ok (.iload_n 1, 1) := by decide +kernel
theorem dX11_match_29 : decode cX11_match 29 = .ok (.bipush 10, 2) := by decide +kernel
theorem dX11_match_31 : decode cX11_match 31 = .ok (.irem, 1) := by decide +kernel
theorem dX11_match_32 : decode cX11_match 32 = .ok (.if_icmp .ne 6, 3) := by decide +kernel
theorem dX11_match_35 : decode cX11_match 35 = .ok (.bipush (-2), 2) := by decide +kernel
theorem dX11_match_37 : decode cX11_match 37 = .ok (.ireturn, 1) := by decide +kernel
theorem dX11_match_38 : decode cX11_match 38 = .ok (.iload_n 2, 1) := by decide +kernel
theorem dX11_match_39 : decode cX11_match 39 = .ok (.iconst 0, 1) := by decide +kernel
theorem dX11_match_40 : decode cX11_match 40 = .ok (.bipush 99, 2) := by decide +kernel
theorem dX11_match_42 : decode cX11_match 42 = .ok (.invokestatic 100, 3) := by decide +kernel
theorem dX11_match_45 : decode cX11_match 45 = .ok (.ifCond .eq 17, 3) := by decide +kernel
theorem dX11_match_48 : decode cX11_match 48 = .ok (.aload_n 0, 1) := by decide +kernel
theorem dX11_match_49 : decode cX11_match 49 = .ok (.getfield 12, 3) := by decide +kernel
theorem dX11_match_52 : decode cX11_match 52 = .ok (.getfield 189, 3) := by decide +kernel
theorem dX11_match_55 : decode cX11_match 55 = .ok (.iload_n 3, 1) := by decide +kernel
theorem dX11_match_56 : decode cX11_match 56 = .ok (.invokevirtual 236, 3) := by decide +kernel
theorem dX11_match_59 : decode cX11_match 59 = .ok (.ifCond .ne 6, 3) := by decide +kernel
theorem dX11_match_62 : decode cX11_match 62 = .ok (.bipush (-2), 2) := by decide +kernel
theorem dX11_match_64 : decode cX11_match 64 = .ok (.ireturn, 1) := by decide +kernel
theorem dX11_match_65 : decode cX11_match 65 = .ok (.aload_n 0, 1) := by decide +kernel
theorem dX11_match_66 : decode cX11_match 66 = .ok (.getfield 26, 3) := by decide +kernel
theorem dX11_match_69 : decode cX11_match 69 = .ok (.iload_n 1, 1) := by decide +kernel
theorem dX11_match_70 : decode cX11_match 70 = .ok (.iload_n 2, 1) := by decide +kernel
theorem dX11_match_71 : decode cX11_match 71 = .ok (.iload_n 3, 1) := by decide +kernel
theorem dX11_match_72 : decode cX11_match 72 = .ok (.invokevirtual 261, 3) := by decide +kernel
theorem dX11_match_75 : decode cX11_match 75 = .ok (.ireturn, 1) := by decide +kernel
theorem dX11_table_0 : decode cX11_table 0 = .ok (.iload_n 1, 1) := by decide +kernel
theorem dX11_table_1 : decode cX11_table 1 = .ok (.invokestatic 185, 3) := by decide +kernel
theorem dX11_table_4 : decode cX11_table 4 = .ok (.ifCond .eq 19, 3) := by decide +kernel
theorem dX11_table_7 : decode cX11_table 7 = .ok (.iload_n 2, 1) := by decide +kernel
theorem dX11_table_8 : decode cX11_table 8 = .ok (.invokestatic 258, 3) := by decide +kernel
theorem dX11_table_11 : decode cX11_table 11 = .ok (.ifCond .eq 12, 3) := by decide +kernel
theorem dX11_table_14 : decode cX11_table 14 = .ok (.iload_n 3, 1) := by decide +kernel
theorem dX11_table_15 : decode cX11_table 15 = .ok (.iconst 0, 1) := by decide +kernel
theorem dX11_table_16 : decode cX11_table 16 = .ok (.iconst 3, 1) := by decide +kernel
theorem dX11_table_17 : decode cX11_table 17 = .ok (.invokestatic 100, 3) := by decide +kernel
theorem dX11_table_20 : decode cX11_table 20 = .ok (.ifCond .ne 6, 3) := by decide +kernel
theorem dX11_table_23 : decode cX11_table 23 = .ok (.bipush (-2), 2) := by decide +kernel
theorem dX11_table_25 : decode cX11_table 25 = .ok (.ireturn, 1) := by decide +kernel
theorem dX11_table_26 : decode cX11_table 26 = .ok (.aload_n 0, 1) := by decide +kernel
theorem dX11_table_27 : decode cX11_table 27 = .ok (.getfield 12, 3) := by decide +kernel
theorem dX11_table_30 : decode cX11_table 30 = .ok (.iload_n 1, 1) := by decide +kernel
theorem dX11_table_31 : decode cX11_table 31 = .ok (.invokevirtual 133, 3) := by decide +kernel
theorem dX11_table_34 : decode cX11_table 34 = .ok (.aload_n 0, 1) := by decide +kernel
theorem dX11_table_35 : decode cX11_table 35 = .ok (.getfield 26, 3) := by decide +kernel
theorem dX11_table_38 : decode cX11_table 38 = .ok (.aload_n 0, 1) := by decide +kernel
theorem dX11_table_39 : decode cX11_table 39 = .ok (.getfield 12, 3) := by decide +kernel
theorem dX11_table_42 : decode cX11_table 42 = .ok (.aload_n 0, 1) := by decide +kernel
theorem dX11_table_43 : decode cX11_table 43 = .ok (.getfield 12, 3) := by decide +kernel
theorem dX11_table_46 : decode cX11_table 46 = .ok (.getfield 189, 3) := by decide +kernel
theorem dX11_table_49 : decode cX11_table 49 = .ok (.invokevirtual 227, 3) := by decide +kernel
theorem dX11_table_52 : decode cX11_table 52 = .ok (.invokevirtual 230, 3) := by decide +kernel
theorem dX11_table_55 : decode cX11_table 55 = .ok (.aload_n 0, 1) := by decide +kernel
theorem dX11_table_56 : decode cX11_table 56 = .ok (.getfield 12, 3) := by decide +kernel
theorem dX11_table_59 : decode cX11_table 59 = .ok (.getfield 189, 3) := by decide +kernel
theorem dX11_table_62 : decode cX11_table 62 = .ok (.invokevirtual 262, 3) := by decide +kernel
theorem dX11_table_65 : decode cX11_table 65 = .ok (.iload_n 3, 1) := by decide +kernel
theorem dX11_table_66 : decode cX11_table 66 = .ok (.tableswitch 56 0 2 #[26, 36, 46], 26) := by decide +kernel
theorem dX11_table_92 : decode cX11_table 92 = .ok (.aload_n 0, 1) := by decide +kernel
theorem dX11_table_93 : decode cX11_table 93 = .ok (.getfield 26, 3) := by decide +kernel
theorem dX11_table_96 : decode cX11_table 96 = .ok (.getfield 266, 3) := by decide +kernel
theorem dX11_table_99 : decode cX11_table 99 = .ok (.iload_n 2, 1) := by decide +kernel
theorem dX11_table_100 : decode cX11_table 100 = .ok (.iaload, 1) := by decide +kernel
theorem dX11_table_101 : decode cX11_table 101 = .ok (.ireturn, 1) := by decide +kernel
theorem dX11_table_102 : decode cX11_table 102 = .ok (.aload_n 0, 1) := by decide +kernel
theorem dX11_table_103 : decode cX11_table 103 = .ok (.getfield 26, 3) := by decide +kernel
theorem dX11_table_106 : decode cX11_table 106 = .ok (.getfield 269, 3) := by decide +kernel
theorem dX11_table_109 : decode cX11_table 109 = .ok (.iload_n 2, 1) := by decide +kernel
theorem dX11_table_110 : decode cX11_table 110 = .ok (.iaload, 1) := by decide +kernel
theorem dX11_table_111 : decode cX11_table 111 = .ok (.ireturn, 1) := by decide +kernel
theorem dX11_table_112 : decode cX11_table 112 = .ok (.aload_n 0, 1) := by decide +kernel
theorem dX11_table_113 : decode cX11_table 113 = .ok (.getfield 26, 3) := by decide +kernel
theorem dX11_table_116 : decode cX11_table 116 = .ok (.getfield 272, 3) := by decide +kernel
theorem dX11_table_119 : decode cX11_table 119 = .ok (.iload_n 2, 1) := by decide +kernel
theorem dX11_table_120 : decode cX11_table 120 = .ok (.iaload, 1) := by decide +kernel
theorem dX11_table_121 : decode cX11_table 121 = .ok (.ireturn, 1) := by decide +kernel
theorem dX11_table_122 : decode cX11_table 122 = .ok (.aload_n 0, 1) := by decide +kernel
theorem dX11_table_123 : decode cX11_table 123 = .ok (.getfield 26, 3) := by decide +kernel
theorem dX11_table_126 : decode cX11_table 126 = .ok (.iload_n 2, 1) := by decide +kernel
theorem dX11_table_127 : decode cX11_table 127 = .ok (.invokevirtual 275, 3) := by decide +kernel
theorem dX11_table_130 : decode cX11_table 130 = .ok (.ireturn, 1) := by decide +kernel
theorem dX11_season_0 : decode cX11_season 0 = .ok (.iload_n 1, 1) := by decide +kernel
theorem dX11_season_1 : decode cX11_season 1 = .ok (.invokestatic 233, 3) := by decide +kernel
theorem dX11_season_4 : decode cX11_season 4 = .ok (.ifCond .ne 6, 3) := by decide +kernel
theorem dX11_season_7 : decode cX11_season 7 = .ok (.bipush (-2), 2) := by decide +kernel
theorem dX11_season_9 : decode cX11_season 9 = .ok (.ireturn, 1) := by decide +kernel
theorem dX11_season_10 : decode cX11_season 10 = .ok (.aload_n 0, 1) := by decide +kernel
theorem dX11_season_11 : decode cX11_season 11 = .ok (.getfield 40, 3) := by decide +kernel
theorem dX11_season_14 : decode cX11_season 14 = .ok (.iload_n 1, 1) := by decide +kernel
theorem dX11_season_15 : decode cX11_season 15 = .ok (.invokevirtual 239, 3) := by decide +kernel
theorem dX11_season_18 : decode cX11_season 18 = .ok (.istore_n 2, 1) := by decide +kernel
theorem dX11_season_19 : decode cX11_season 19 = .ok (.iload_n 2, 1) := by decide +kernel
theorem dX11_season_20 : decode cX11_season 20 = .ok (.ifCond .eq 5, 3) := by decide +kernel
theorem dX11_season_23 : decode cX11_season 23 = .ok (.iload_n 2, 1) := by decide +kernel
theorem dX11_season_24 : decode cX11_season 24 = .ok (.ireturn, 1) := by decide +kernel
theorem dX11_season_25 : decode cX11_season 25 = .ok (.iconst 0, 1) := by decide +kernel
theorem dX11_season_26 : decode cX11_season 26 = .ok (.istore_n 3, 1) := by decide +kernel
theorem dX11_season_27 : decode cX11_season 27 = .ok (.iconst 0, 1) := by decide +kernel
theorem dX11_season_28 : decode cX11_season 28 = .ok (.istore 4, 2) := by decide +kernel
theorem dX11_season_30 : decode cX11_season 30 = .ok (.iconst 0, 1) := by decide +kernel
theorem dX11_season_31 : decode cX11_season 31 = .ok (.istore 5, 2) := by decide +kernel
theorem dX11_season_33 : decode cX11_season 33 = .ok (.iload 5, 2) := by decide +kernel
theorem dX11_season_35 : decode cX11_season 35 = .ok (.aload_n 0, 1) := by decide +kernel
theorem dX11_season_36 : decode cX11_season 36 = .ok (.getfield 40, 3) := by decide +kernel
theorem dX11_season_39 : decode cX11_season 39 = .ok (.getfield 256, 3) := by decide +kernel
theorem dX11_season_42 : decode cX11_season 42 = .ok (.iload_n 1, 1) := by decide +kernel
theorem dX11_season_43 : decode cX11_season 43 = .ok (.iaload, 1) := by decide +kernel
theorem dX11_season_44 : decode cX11_season 44 = .ok (.if_icmp .ge 85, 3) := by decide +kernel
theorem dX11_season_47 : decode cX11_season 47 = .ok (.aload_n 0, 1) := by decide +kernel
theorem dX11_season_48 : decode cX11_season 48 = .ok (.getfield 12, 3) := by decide +kernel
theorem dX11_season_51 : decode cX11_season 51 = .ok (.aload_n 0, 1) := by decide +kernel
theorem dX11_season_52 : decode cX11_season 52 = .ok (.getfield 40, 3) := by decide +kernel
theorem dX11_season_55 : decode cX11_season 55 = .ok (.iload_n 1, 1) := by decide +kernel
theorem dX11_season_56 : decode cX11_season 56 = .ok (.iload 5, 2) := by decide +kernel
theorem dX11_season_58 : decode cX11_season 58 = .ok (.invokevirtual 244, 3) := by decide +kernel
theorem dX11_season_61 : decode cX11_season 61 = .ok (.invokevirtual 133, 3) := by decide +kernel
theorem dX11_season_64 : decode cX11_season 64 = .ok (.aload_n 0, 1) := by decide +kernel
theorem dX11_season_65 : decode cX11_season 65 = .ok (.getfield 26, 3) := by decide +kernel
theorem dX11_season_68 : decode cX11_season 68 = .ok (.aload_n 0, 1) := by decide +kernel
theorem dX11_season_69 : decode cX11_season 69 = .ok (.getfield 12, 3) := by decide +kernel
theorem dX11_season_72 : decode cX11_season 72 = .ok (.aload_n 0, 1) := by decide +kernel
theorem dX11_season_73 : decode cX11_season 73 = .ok (.getfield 12, 3) := by decide +kernel
theorem dX11_season_76 : decode cX11_season 76 = .ok (.getfield 189, 3) := by decide +kernel
theorem dX11_season_79 : decode cX11_season 79 = .ok (.invokevirtual 227, 3) := by decide +kernel
theorem dX11_season_82 : decode cX11_season 82 = .ok (.invokevirtual 230, 3) := by decide +kernel
theorem dX11_season_85 : decode cX11_season 85 = .ok (.aload_n 0, 1) := by decide +kernel
theorem dX11_season_86 : decode cX11_season 86 = .ok (.getfield 12, 3) := by decide +kernel
theorem dX11_season_89 : decode cX11_season 89 = .ok (.getfield 189, 3) := by decide +kernel
theorem dX11_season_92 : decode cX11_season 92 = .ok (.invokevirtual 262, 3) := by decide +kernel
theorem dX11_season_95 : decode cX11_season 95 = .ok (.aload_n 0, 1) := by decide +kernel
theorem dX11_season_96 : decode cX11_season 96 = .ok (.getfield 26, 3) := by decide +kernel
theorem dX11_season_99 : decode cX11_season 99 = .ok (.invokevirtual 278, 3) := by decide +kernel
theorem dX11_season_102 : decode cX11_season 102 = .ok (.istore 6, 2) := by decide +kernel
theorem dX11_season_104 : decode cX11_season 104 = .ok (.iload 5, 2) := by decide +kernel
theorem dX11_season_106 : decode cX11_season 106 = .ok (.ifCond .le 13, 3) := by decide +kernel
theorem dX11_season_109 : decode cX11_season 109 = .ok (.iload 6, 2) := by decide +kernel
theorem dX11_season_111 : decode cX11_season 111 = .ok (.iload 4, 2) := by decide +kernel
theorem dX11_season_113 : decode cX11_season 113 = .ok (.if_icmp .eq 6, 3) := by decide +kernel
theorem dX11_season_116 : decode cX11_season 116 = .ok (.iinc 3 1, 3) := by decide +kernel
theorem dX11_season_119 : decode cX11_season 119 = .ok (.iload 6, 2) := by decide +kernel
theorem dX11_season_121 : decode cX11_season 121 = .ok (.istore 4, 2) := by decide +kernel
theorem dX11_season_123 : decode cX11_season 123 = .ok (.iinc 5 1, 3) := by decide +kernel
theorem dX11_season_126 : decode cX11_season 126 = .ok (.goto (-93), 3) := by decide +kernel
theorem dX11_season_129 : decode cX11_season 129 = .ok (.iload_n 3, 1) := by decide +kernel
theorem dX11_season_130 : decode cX11_season 130 = .ok (.ireturn, 1) := by decide +kernel
theorem dX11_stand_0 : decode cX11_stand 0 = .ok (.iload_n 1, 1) := by decide +kernel
theorem dX11_stand_1 : decode cX11_stand 1 = .ok (.invokestatic 258, 3) := by decide +kernel
theorem dX11_stand_4 : decode cX11_stand 4 = .ok (.ifCond .eq 24, 3) := by decide +kernel
theorem dX11_stand_7 : decode cX11_stand 7 = .ok (.iload_n 2, 1) := by decide +kernel
theorem dX11_stand_8 : decode cX11_stand 8 = .ok (.invokestatic 185, 3) := by decide +kernel
theorem dX11_stand_11 : decode cX11_stand 11 = .ok (.ifCond .eq 17, 3) := by decide +kernel
theorem dX11_stand_14 : decode cX11_stand 14 = .ok (.aload_n 0, 1) := by decide +kernel
theorem dX11_stand_15 : decode cX11_stand 15 = .ok (.getfield 12, 3) := by decide +kernel
theorem dX11_stand_18 : decode cX11_stand 18 = .ok (.getfield 189, 3) := by decide +kernel
theorem dX11_stand_21 : decode cX11_stand 21 = .ok (.iload_n 3, 1) := by decide +kernel
theorem dX11_stand_22 : decode cX11_stand 22 = .ok (.invokevirtual 236, 3) := by decide +kernel
theorem dX11_stand_25 : decode cX11_stand 25 = .ok (.ifCond .ne 6, 3) := by decide +kernel
theorem dX11_stand_28 : decode cX11_stand 28 = .ok (.bipush (-2), 2) := by decide +kernel
theorem dX11_stand_30 : decode cX11_stand 30 = .ok (.ireturn, 1) := by decide +kernel
theorem dX11_stand_31 : decode cX11_stand 31 = .ok (.aload_n 0, 1) := by decide +kernel
theorem dX11_stand_32 : decode cX11_stand 32 = .ok (.getfield 12, 3) := by decide +kernel
theorem dX11_stand_35 : decode cX11_stand 35 = .ok (.iload_n 2, 1) := by decide +kernel
theorem dX11_stand_36 : decode cX11_stand 36 = .ok (.iload_n 1, 1) := by decide +kernel
theorem dX11_stand_37 : decode cX11_stand 37 = .ok (.iload_n 2, 1) := by decide +kernel
theorem dX11_stand_38 : decode cX11_stand 38 = .ok (.aload_n 0, 1) := by decide +kernel
theorem dX11_stand_39 : decode cX11_stand 39 = .ok (.getfield 129, 3) := by decide +kernel
theorem dX11_stand_42 : decode cX11_stand 42 = .ok (.isub, 1) := by decide +kernel
theorem dX11_stand_43 : decode cX11_stand 43 = .ok (.iconst 2, 1) := by decide +kernel
theorem dX11_stand_44 : decode cX11_stand 44 = .ok (.idiv, 1) := by decide +kernel
theorem dX11_stand_45 : decode cX11_stand 45 = .ok (.invokevirtual 281, 3) := by decide +kernel
theorem dX11_stand_48 : decode cX11_stand 48 = .ok (.aload_n 0, 1) := by decide +kernel
theorem dX11_stand_49 : decode cX11_stand 49 = .ok (.getfield 12, 3) := by decide +kernel
theorem dX11_stand_52 : decode cX11_stand 52 = .ok (.aload_n 0, 1) := by decide +kernel
theorem dX11_stand_53 : decode cX11_stand 53 = .ok (.getfield 12, 3) := by decide +kernel
theorem dX11_stand_56 : decode cX11_stand 56 = .ok (.getfield 189, 3) := by decide +kernel
theorem dX11_stand_59 : decode cX11_stand 59 = .ok (.iload_n 1, 1) := by decide +kernel
theorem dX11_stand_60 : decode cX11_stand 60 = .ok (.iload_n 3, 1) := by decide +kernel
theorem dX11_stand_61 : decode cX11_stand 61 = .ok (.invokevirtual 285, 3) := by decide +kernel
theorem dX11_stand_64 : decode cX11_stand 64 = .ok (.invokevirtual 230, 3) := by decide +kernel
theorem dX11_stand_67 : decode cX11_stand 67 = .ok (.ireturn, 1) := by decide +kernel
theorem dX11_shown_0 : decode cX11_shown 0 = .ok (.aload_n 0, 1) := by decide +kernel
theorem dX11_shown_1 : decode cX11_shown 1 = .ok (.getfield 33, 3) := by decide +kernel
theorem dX11_shown_4 : decode cX11_shown 4 = .ok (.iload_n 1, 1) := by decide +kernel
theorem dX11_shown_5 : decode cX11_shown 5 = .ok (.iload_n 2, 1) := by decide +kernel
theorem dX11_shown_6 : decode cX11_shown 6 = .ok (.invokevirtual 288, 3) := by decide +kernel
theorem dX11_shown_9 : decode cX11_shown 9 = .ok (.ireturn, 1) := by decide +kernel
theorem dX11_split_0 : decode cX11_split 0 = .ok (.aload_n 0, 1) := by decide +kernel
theorem dX11_split_1 : decode cX11_split 1 = .ok (.getfield 33, 3) := by decide +kernel
theorem dX11_split_4 : decode cX11_split 4 = .ok (.invokevirtual 289, 3) := by decide +kernel
theorem dX11_split_7 : decode cX11_split 7 = .ok (.ireturn, 1) := by decide +kernel
theorem dX11_image_0 : decode cX11_image 0 = .ok (.aload_n 0, 1) := by decide +kernel
theorem dX11_image_1 : decode cX11_image 1 = .ok (.getfield 47, 3) := by decide +kernel
theorem dX11_image_4 : decode cX11_image 4 = .ok (.aload_n 0, 1) := by decide +kernel
theorem dX11_image_5 : decode cX11_image 5 = .ok (.getfield 12, 3) := by decide +kernel
theorem dX11_image_8 : decode cX11_image 8 = .ok (.getfield 86, 3) := by decide +kernel
theorem dX11_image_11 : decode cX11_image 11 = .ok (.getfield 292, 3) := by decide +kernel
theorem dX11_image_14 : decode cX11_image 14 = .ok (.putfield 292, 3) := by decide +kernel
theorem dX11_image_17 : decode cX11_image 17 = .ok (.aload_n 0, 1) := by decide +kernel
theorem dX11_image_18 : decode cX11_image 18 = .ok (.getfield 47, 3) := by decide +kernel
theorem dX11_image_21 : decode cX11_image 21 = .ok (.aload_n 0, 1) := by decide +kernel
theorem dX11_image_22 : decode cX11_image 22 = .ok (.getfield 12, 3) := by decide +kernel
theorem dX11_image_25 : decode cX11_image 25 = .ok (.getfield 86, 3) := by decide +kernel
theorem dX11_image_28 : decode cX11_image 28 = .ok (.invokevirtual 293, 3) := by decide +kernel
theorem dX11_image_31 : decode cX11_image 31 = .ok (.aload_n 0, 1) := by decide +kernel
theorem dX11_image_32 : decode cX11_image 32 = .ok (.aload_n 0, 1) := by decide +kernel
theorem dX11_image_33 : decode cX11_image 33 = .ok (.getfield 129, 3) := by decide +kernel
theorem dX11_image_36 : decode cX11_image 36 = .ok (.putfield 297, 3) := by decide +kernel
theorem dX11_image_39 : decode cX11_image 39 = .ok (.aload_n 0, 1) := by decide +kernel
theorem dX11_image_40 : decode cX11_image 40 = .ok (.aload_n 0, 1) := by decide +kernel
theorem dX11_image_41 : decode cX11_image 41 = .ok (.getfield 12, 3) := by decide +kernel
theorem dX11_image_44 : decode cX11_image 44 = .ok (.getfield 76, 3) := by decide +kernel
theorem dX11_image_47 : decode cX11_image 47 = .ok (.getfield 178, 3) := by decide +kernel
theorem dX11_image_50 : decode cX11_image 50 = .ok (.putfield 300, 3) := by decide +kernel
theorem dX11_image_53 : decode cX11_image 53 = .ok (.aload_n 0, 1) := by decide +kernel
theorem dX11_image_54 : decode cX11_image 54 = .ok (.iconst 1, 1) := by decide +kernel
theorem dX11_image_55 : decode cX11_image 55 = .ok (.putfield 303, 3) := by decide +kernel
theorem dX11_image_58 : decode cX11_image 58 = .ok (.aload_n 0, 1) := by decide +kernel
theorem dX11_image_59 : decode cX11_image 59 = .ok (.getfield 129, 3) := by decide +kernel
theorem dX11_image_62 : decode cX11_image 62 = .ok (.ireturn, 1) := by decide +kernel
theorem dX11_back_0 : decode cX11_back 0 = .ok (.aload_n 0, 1) := by decide +kernel
theorem dX11_back_1 : decode cX11_back 1 = .ok (.getfield 303, 3) := by decide +kernel
theorem dX11_back_4 : decode cX11_back 4 = .ok (.ifCond .ne 6, 3) := by decide +kernel
theorem dX11_back_7 : decode cX11_back 7 = .ok (.bipush (-3), 2) := by decide +kernel
theorem dX11_back_9 : decode cX11_back 9 = .ok (.ireturn, 1) := by decide +kernel
theorem dX11_back_10 : decode cX11_back 10 = .ok (.aload_n 0, 1) := by decide +kernel
theorem dX11_back_11 : decode cX11_back 11 = .ok (.getfield 12, 3) := by decide +kernel
theorem dX11_back_14 : decode cX11_back 14 = .ok (.getfield 86, 3) := by decide +kernel
theorem dX11_back_17 : decode cX11_back 17 = .ok (.aload_n 0, 1) := by decide +kernel
theorem dX11_back_18 : decode cX11_back 18 = .ok (.getfield 47, 3) := by decide +kernel
theorem dX11_back_21 : decode cX11_back 21 = .ok (.invokevirtual 293, 3) := by decide +kernel
theorem dX11_back_24 : decode cX11_back 24 = .ok (.aload_n 0, 1) := by decide +kernel
theorem dX11_back_25 : decode cX11_back 25 = .ok (.aload_n 0, 1) := by decide +kernel
theorem dX11_back_26 : decode cX11_back 26 = .ok (.getfield 297, 3) := by decide +kernel
theorem dX11_back_29 : decode cX11_back 29 = .ok (.putfield 129, 3) := by decide +kernel
theorem dX11_back_32 : decode cX11_back 32 = .ok (.aload_n 0, 1) := by decide +kernel
theorem dX11_back_33 : decode cX11_back 33 = .ok (.getfield 12, 3) := by decide +kernel
theorem dX11_back_36 : decode cX11_back 36 = .ok (.getfield 76, 3) := by decide +kernel
theorem dX11_back_39 : decode cX11_back 39 = .ok (.aload_n 0, 1) := by decide +kernel
theorem dX11_back_40 : decode cX11_back 40 = .ok (.getfield 300, 3) := by decide +kernel
theorem dX11_back_43 : decode cX11_back 43 = .ok (.putfield 178, 3) := by decide +kernel
theorem dX11_back_46 : decode cX11_back 46 = .ok (.aload_n 0, 1) := by decide +kernel
theorem dX11_back_47 : decode cX11_back 47 = .ok (.getfield 129, 3) := by decide +kernel
theorem dX11_back_50 : decode cX11_back 50 = .ok (.ireturn, 1) := by decide +kernel
theorem dX11_count_0 : decode cX11_count 0 = .ok (.iload_n 1, 1) := by decide +kernel
theorem dX11_count_1 : decode cX11_count 1 = .ok (.tableswitch 153 0 9 #[55, 66, 77, 88, 99, 107, 115, 126, 137, 148], 55) := by decide +kernel
theorem dX11_count_56 : decode cX11_count 56 = .ok (.aload_n 0, 1) := by decide +kernel
theorem dX11_count_57 : decode cX11_count 57 = .ok (.getfield 12, 3) := by decide +kernel
theorem dX11_count_60 : decode cX11_count 60 = .ok (.getfield 86, 3) := by decide +kernel
theorem dX11_count_63 : decode cX11_count 63 = .ok (.getfield 292, 3) := by decide +kernel
theorem dX11_count_66 : decode cX11_count 66 = .ok (.ireturn, 1) := by decide +kernel
theorem dX11_count_67 : decode cX11_count 67 = .ok (.aload_n 0, 1) := by decide +kernel
theorem dX11_count_68 : decode cX11_count 68 = .ok (.getfield 12, 3) := by decide +kernel
theorem dX11_count_71 : decode cX11_count 71 = .ok (.getfield 149, 3) := by decide +kernel
theorem dX11_count_74 : decode cX11_count 74 = .ok (.getfield 307, 3) := by decide +kernel
theorem dX11_count_77 : decode cX11_count 77 = .ok (.ireturn, 1) := by decide +kernel
theorem dX11_count_78 : decode cX11_count 78 = .ok (.aload_n 0, 1) := by decide +kernel
theorem dX11_count_79 : decode cX11_count 79 = .ok (.getfield 12, 3) := by decide +kernel
theorem dX11_count_82 : decode cX11_count 82 = .ok (.getfield 165, 3) := by decide +kernel
theorem dX11_count_85 : decode cX11_count 85 = .ok (.getfield 308, 3) := by decide +kernel
theorem dX11_count_88 : decode cX11_count 88 = .ok (.ireturn, 1) := by decide +kernel
theorem dX11_count_89 : decode cX11_count 89 = .ok (.aload_n 0, 1) := by decide +kernel
theorem dX11_count_90 : decode cX11_count 90 = .ok (.getfield 12, 3) := by decide +kernel
theorem dX11_count_93 : decode cX11_count 93 = .ok (.getfield 189, 3) := by decide +kernel
theorem dX11_count_96 : decode cX11_count 96 = .ok (.getfield 309, 3) := by decide +kernel
theorem dX11_count_99 : decode cX11_count 99 = .ok (.ireturn, 1) := by decide +kernel
theorem dX11_count_100 : decode cX11_count 100 = .ok (.aload_n 0, 1) := by decide +kernel
theorem dX11_count_101 : decode cX11_count 101 = .ok (.getfield 26, 3) := by decide +kernel
theorem dX11_count_104 : decode cX11_count 104 = .ok (.getfield 310, 3) := by decide +kernel
theorem dX11_count_107 : decode cX11_count 107 = .ok (.ireturn, 1) := by decide +kernel
theorem dX11_count_108 : decode cX11_count 108 = .ok (.aload_n 0, 1) := by decide +kernel
theorem dX11_count_109 : decode cX11_count 109 = .ok (.getfield 33, 3) := by decide +kernel
theorem dX11_count_112 : decode cX11_count 112 = .ok (.getfield 311, 3) := by decide +kernel
theorem dX11_count_115 : decode cX11_count 115 = .ok (.ireturn, 1) := by decide +kernel
theorem dX11_count_116 : decode cX11_count 116 = .ok (.aload_n 0, 1) := by decide +kernel
theorem dX11_count_117 : decode cX11_count 117 = .ok (.getfield 12, 3) := by decide +kernel
theorem dX11_count_120 : decode cX11_count 120 = .ok (.getfield 76, 3) := by decide +kernel
theorem dX11_count_123 : decode cX11_count 123 = .ok (.getfield 176, 3) := by decide +kernel
theorem dX11_count_126 : decode cX11_count 126 = .ok (.ireturn, 1) := by decide +kernel
theorem dX11_count_127 : decode cX11_count 127 = .ok (.aload_n 0, 1) := by decide +kernel
theorem dX11_count_128 : decode cX11_count 128 = .ok (.getfield 19, 3) := by decide +kernel
theorem dX11_count_131 : decode cX11_count 131 = .ok (.getfield 59, 3) := by decide +kernel
theorem dX11_count_134 : decode cX11_count 134 = .ok (.getfield 173, 3) := by decide +kernel
theorem dX11_count_137 : decode cX11_count 137 = .ok (.ireturn, 1) := by decide +kernel
theorem dX11_count_138 : decode cX11_count 138 = .ok (.aload_n 0, 1) := by decide +kernel
theorem dX11_count_139 : decode cX11_count 139 = .ok (.getfield 12, 3) := by decide +kernel
theorem dX11_count_142 : decode cX11_count 142 = .ok (.getfield 76, 3) := by decide +kernel
theorem dX11_count_145 : decode cX11_count 145 = .ok (.getfield 178, 3) := by decide +kernel
theorem dX11_count_148 : decode cX11_count 148 = .ok (.ireturn, 1) := by decide +kernel
theorem dX11_count_149 : decode cX11_count 149 = .ok (.aload_n 0, 1) := by decide +kernel
theorem dX11_count_150 : decode cX11_count 150 = .ok (.getfield 129, 3) := by decide +kernel
theorem dX11_count_153 : decode cX11_count 153 = .ok (.ireturn, 1) := by decide +kernel
theorem dX11_count_154 : decode cX11_count 154 = .ok (.bipush (-2), 2) := by decide +kernel
theorem dX11_count_156 : decode cX11_count 156 = .ok (.ireturn, 1) := by decide +kernel
theorem dX11_sheet_0 : decode cX11_sheet 0 = .ok (.iload_n 1, 1) := by decide +kernel
theorem dX11_sheet_1 : decode cX11_sheet 1 = .ok (.invokestatic 233, 3) := by decide +kernel
theorem dX11_sheet_4 : decode cX11_sheet 4 = .ok (.ifCond .eq 12, 3) := by decide +kernel
theorem dX11_sheet_7 : decode cX11_sheet 7 = .ok (.iload_n 2, 1) := by decide +kernel
theorem dX11_sheet_8 : decode cX11_sheet 8 = .ok (.iconst (-1), 1) := by decide +kernel
theorem dX11_sheet_9 : decode cX11_sheet 9 = .ok (.iconst 2, 1) := by decide +kernel
theorem dX11_sheet_10 : decode cX11_sheet 10 = .ok (.invokestatic 100, 3) := by decide +kernel
theorem dX11_sheet_13 : decode cX11_sheet 13 = .ok (.ifCond .ne 6, 3) := by decide +kernel
theorem dX11_sheet_16 : decode cX11_sheet 16 = .ok (.bipush (-2), 2) := by decide +kernel
theorem dX11_sheet_18 : decode cX11_sheet 18 = .ok (.ireturn, 1) := by decide +kernel
theorem dX11_sheet_19 : decode cX11_sheet 19 = .ok (.iload_n 2, 1) := by decide +kernel
theorem dX11_sheet_20 : decode cX11_sheet 20 = .ok (.iconst (-1), 1) := by decide +kernel
theorem dX11_sheet_21 : decode cX11_sheet 21 = .ok (.if_icmp .ne 15, 3) := by decide +kernel
theorem dX11_sheet_24 : decode cX11_sheet 24 = .ok (.aload_n 0, 1) := by decide +kernel
theorem dX11_sheet_25 : decode cX11_sheet 25 = .ok (.getfield 40, 3) := by decide +kernel
theorem dX11_sheet_28 : decode cX11_sheet 28 = .ok (.iload_n 1, 1) := by decide +kernel
theorem dX11_sheet_29 : decode cX11_sheet 29 = .ok (.iconst (-1), 1) := by decide +kernel
theorem dX11_sheet_30 : decode cX11_sheet 30 = .ok (.iconst 0, 1) := by decide +kernel
theorem dX11_sheet_31 : decode cX11_sheet 31 = .ok (.invokevirtual 312, 3) := by decide +kernel
theorem dX11_sheet_34 : decode cX11_sheet 34 = .ok (.iconst 1, 1) := by decide +kernel
theorem dX11_sheet_35 : decode cX11_sheet 35 = .ok (.ireturn, 1) := by decide +kernel
theorem dX11_sheet_36 : decode cX11_sheet 36 = .ok (.iload_n 3, 1) := by decide +kernel
theorem dX11_sheet_37 : decode cX11_sheet 37 = .ok (.bipush 40, 2) := by decide +kernel
theorem dX11_sheet_39 : decode cX11_sheet 39 = .ok (.if_icmp .le 6, 3) := by decide +kernel
theorem dX11_sheet_42 : decode cX11_sheet 42 = .ok (.bipush (-2), 2) := by decide +kernel
theorem dX11_sheet_44 : decode cX11_sheet 44 = .ok (.ireturn, 1) := by decide +kernel
theorem dX11_sheet_45 : decode cX11_sheet 45 = .ok (.iload_n 3, 1) := by decide +kernel
theorem dX11_sheet_46 : decode cX11_sheet 46 = .ok (.ifCond .ge 6, 3) := by decide +kernel
theorem dX11_sheet_49 : decode cX11_sheet 49 = .ok (.bipush (-14), 2) := by decide +kernel
theorem dX11_sheet_51 : decode cX11_sheet 51 = .ok (.ireturn, 1) := by decide +kernel
theorem dX11_sheet_52 : decode cX11_sheet 52 = .ok (.aload_n 0, 1) := by decide +kernel
theorem dX11_sheet_53 : decode cX11_sheet 53 = .ok (.getfield 40, 3) := by decide +kernel
theorem dX11_sheet_56 : decode cX11_sheet 56 = .ok (.iload_n 1, 1) := by decide +kernel
theorem dX11_sheet_57 : decode cX11_sheet 57 = .ok (.iload_n 2, 1) := by decide +kernel
theorem dX11_sheet_58 : decode cX11_sheet 58 = .ok (.iload_n 3, 1) := by decide +kernel
theorem dX11_sheet_59 : decode cX11_sheet 59 = .ok (.invokevirtual 312, 3) := by decide +kernel
theorem dX11_sheet_62 : decode cX11_sheet 62 = .ok (.iconst 1, 1) := by decide +kernel
theorem dX11_sheet_63 : decode cX11_sheet 63 = .ok (.ireturn, 1) := by decide +kernel
theorem dX11_cell_0 : decode cX11_cell 0 = .ok (.iload_n 1, 1) := by decide +kernel
theorem dX11_cell_1 : decode cX11_cell 1 = .ok (.invokestatic 233, 3) := by decide +kernel
theorem dX11_cell_4 : decode cX11_cell 4 = .ok (.ifCond .ne 6, 3) := by decide +kernel
theorem dX11_cell_7 : decode cX11_cell 7 = .ok (.bipush (-2), 2) := by decide +kernel
theorem dX11_cell_9 : decode cX11_cell 9 = .ok (.ireturn, 1) := by decide +kernel
theorem dX11_cell_10 : decode cX11_cell 10 = .ok (.aload_n 0, 1) := by decide +kernel
theorem dX11_cell_11 : decode cX11_cell 11 = .ok (.getfield 40, 3) := by decide +kernel
theorem dX11_cell_14 : decode cX11_cell 14 = .ok (.iload_n 1, 1) := by decide +kernel
theorem dX11_cell_15 : decode cX11_cell 15 = .ok (.invokevirtual 315, 3) := by decide +kernel
theorem dX11_cell_18 : decode cX11_cell 18 = .ok (.ifCond .eq 6, 3) := by decide +kernel
theorem dX11_cell_21 : decode cX11_cell 21 = .ok (.bipush (-11), 2) := by decide +kernel
theorem dX11_cell_23 : decode cX11_cell 23 = .ok (.ireturn, 1) := by decide +kernel
theorem dX11_cell_24 : decode cX11_cell 24 = .ok (.aload_n 0, 1) := by decide +kernel
theorem dX11_cell_25 : decode cX11_cell 25 = .ok (.getfield 40, 3) := by decide +kernel
theorem dX11_cell_28 : decode cX11_cell 28 = .ok (.iload_n 1, 1) := by decide +kernel
theorem dX11_cell_29 : decode cX11_cell 29 = .ok (.iload_n 2, 1) := by decide +kernel
theorem dX11_cell_30 : decode cX11_cell 30 = .ok (.invokevirtual 242, 3) := by decide +kernel
theorem dX11_cell_33 : decode cX11_cell 33 = .ok (.ifCond .ne 6, 3) := by decide +kernel
theorem dX11_cell_36 : decode cX11_cell 36 = .ok (.bipush (-12), 2) := by decide +kernel
theorem dX11_cell_38 : decode cX11_cell 38 = .ok (.ireturn, 1) := by decide +kernel
theorem dX11_cell_39 : decode cX11_cell 39 = .ok (.aload_n 0, 1) := by decide +kernel
theorem dX11_cell_40 : decode cX11_cell 40 = .ok (.getfield 40, 3) := by decide +kernel
theorem dX11_cell_43 : decode cX11_cell 43 = .ok (.iload_n 1, 1) := by decide +kernel
theorem dX11_cell_44 : decode cX11_cell 44 = .ok (.iload_n 2, 1) := by decide +kernel
theorem dX11_cell_45 : decode cX11_cell 45 = .ok (.iload_n 3, 1) := by decide +kernel
theorem dX11_cell_46 : decode cX11_cell 46 = .ok (.invokevirtual 318, 3) := by decide +kernel
theorem dX11_cell_49 : decode cX11_cell 49 = .ok (.iconst 1, 1) := by decide +kernel
theorem dX11_cell_50 : decode cX11_cell 50 = .ok (.ireturn, 1) := by decide +kernel
theorem dX11_copy_0 : decode cX11_copy 0 = .ok (.iload_n 1, 1) := by decide +kernel
theorem dX11_copy_1 : decode cX11_copy 1 = .ok (.invokestatic 233, 3) := by decide +kernel
theorem dX11_copy_4 : decode cX11_copy 4 = .ok (.ifCond .eq 10, 3) := by decide +kernel
theorem dX11_copy_7 : decode cX11_copy 7 = .ok (.iload_n 3, 1) := by decide +kernel
theorem dX11_copy_8 : decode cX11_copy 8 = .ok (.invokestatic 233, 3) := by decide +kernel
theorem dX11_copy_11 : decode cX11_copy 11 = .ok (.ifCond .ne 6, 3) := by decide +kernel
theorem dX11_copy_14 : decode cX11_copy 14 = .ok (.bipush (-2), 2) := by decide +kernel
theorem dX11_copy_16 : decode cX11_copy 16 = .ok (.ireturn, 1) := by decide +kernel
theorem dX11_copy_17 : decode cX11_copy 17 = .ok (.aload_n 0, 1) := by decide +kernel
theorem dX11_copy_18 : decode cX11_copy 18 = .ok (.getfield 40, 3) := by decide +kernel
theorem dX11_copy_21 : decode cX11_copy 21 = .ok (.iload_n 1, 1) := by decide +kernel
theorem dX11_copy_22 : decode cX11_copy 22 = .ok (.invokevirtual 315, 3) := by decide +kernel
theorem dX11_copy_25 : decode cX11_copy 25 = .ok (.ifCond .ne 14, 3) := by decide +kernel
theorem dX11_copy_28 : decode cX11_copy 28 = .ok (.aload_n 0, 1) := by decide +kernel
theorem dX11_copy_29 : decode cX11_copy 29 = .ok (.getfield 40, 3) := by decide +kernel
theorem dX11_copy_32 : decode cX11_copy 32 = .ok (.iload_n 3, 1) := by decide +kernel
theorem dX11_copy_33 : decode cX11_copy 33 = .ok (.invokevirtual 315, 3) := by decide +kernel
theorem dX11_copy_36 : decode cX11_copy 36 = .ok (.ifCond .eq 6, 3) := by decide +kernel
theorem dX11_copy_39 : decode cX11_copy 39 = .ok (.bipush (-11), 2) := by decide +kernel
theorem dX11_copy_41 : decode cX11_copy 41 = .ok (.ireturn, 1) := by decide +kernel
theorem dX11_copy_42 : decode cX11_copy 42 = .ok (.aload_n 0, 1) := by decide +kernel
theorem dX11_copy_43 : decode cX11_copy 43 = .ok (.getfield 40, 3) := by decide +kernel
theorem dX11_copy_46 : decode cX11_copy 46 = .ok (.getfield 320, 3) := by decide +kernel
theorem dX11_copy_49 : decode cX11_copy 49 = .ok (.iload_n 1, 1) := by decide +kernel
theorem dX11_copy_50 : decode cX11_copy 50 = .ok (.iaload, 1) := by decide +kernel
theorem dX11_copy_51 : decode cX11_copy 51 = .ok (.aload_n 0, 1) := by decide +kernel
theorem dX11_copy_52 : decode cX11_copy 52 = .ok (.getfield 40, 3) := by decide +kernel
theorem dX11_copy_55 : decode cX11_copy 55 = .ok (.getfield 320, 3) := by decide +kernel
theorem dX11_copy_58 : decode cX11_copy 58 = .ok (.iload_n 3, 1) := by decide +kernel
theorem dX11_copy_59 : decode cX11_copy 59 = .ok (.iaload, 1) := by decide +kernel
theorem dX11_copy_60 : decode cX11_copy 60 = .ok (.if_icmp .eq 6, 3) := by decide +kernel
theorem dX11_copy_63 : decode cX11_copy 63 = .ok (.bipush (-13), 2) := by decide +kernel
theorem dX11_copy_65 : decode cX11_copy 65 = .ok (.ireturn, 1) := by decide +kernel
theorem dX11_copy_66 : decode cX11_copy 66 = .ok (.aload_n 0, 1) := by decide +kernel
theorem dX11_copy_67 : decode cX11_copy 67 = .ok (.getfield 40, 3) := by decide +kernel
theorem dX11_copy_70 : decode cX11_copy 70 = .ok (.iload_n 1, 1) := by decide +kernel
theorem dX11_copy_71 : decode cX11_copy 71 = .ok (.iload_n 2, 1) := by decide +kernel
theorem dX11_copy_72 : decode cX11_copy 72 = .ok (.iload 5, 2) := by decide +kernel
theorem dX11_copy_74 : decode cX11_copy 74 = .ok (.invokevirtual 323, 3) := by decide +kernel
theorem dX11_copy_77 : decode cX11_copy 77 = .ok (.ifCond .eq 18, 3) := by decide +kernel
theorem dX11_copy_80 : decode cX11_copy 80 = .ok (.aload_n 0, 1) := by decide +kernel
theorem dX11_copy_81 : decode cX11_copy 81 = .ok (.getfield 40, 3) := by decide +kernel
theorem dX11_copy_84 : decode cX11_copy 84 = .ok (.iload_n 3, 1) := by decide +kernel
theorem dX11_copy_85 : decode cX11_copy 85 = .ok (.iload 4, 2) := by decide +kernel
theorem dX11_copy_87 : decode cX11_copy 87 = .ok (.iload 5, 2) := by decide +kernel
theorem dX11_copy_89 : decode cX11_copy 89 = .ok (.invokevirtual 323, 3) := by decide +kernel
theorem dX11_copy_92 : decode cX11_copy 92 = .ok (.ifCond .ne 6, 3) := by decide +kernel
theorem dX11_copy_95 : decode cX11_copy 95 = .ok (.bipush (-12), 2) := by decide +kernel
theorem dX11_copy_97 : decode cX11_copy 97 = .ok (.ireturn, 1) := by decide +kernel
theorem dX11_copy_98 : decode cX11_copy 98 = .ok (.aload_n 0, 1) := by decide +kernel
theorem dX11_copy_99 : decode cX11_copy 99 = .ok (.getfield 40, 3) := by decide +kernel
theorem dX11_copy_102 : decode cX11_copy 102 = .ok (.getfield 326, 3) := by decide +kernel
theorem dX11_copy_105 : decode cX11_copy 105 = .ok (.iload_n 1, 1) := by decide +kernel
theorem dX11_copy_106 : decode cX11_copy 106 = .ok (.bipush 40, 2) := by decide +kernel
theorem dX11_copy_108 : decode cX11_copy 108 = .ok (.imul, 1) := by decide +kernel
theorem dX11_copy_109 : decode cX11_copy 109 = .ok (.iload_n 2, 1) := by decide +kernel
theorem dX11_copy_110 : decode cX11_copy 110 = .ok (.iadd, 1) := by decide +kernel
theorem dX11_copy_111 : decode cX11_copy 111 = .ok (.aload_n 0, 1) := by decide +kernel
theorem dX11_copy_112 : decode cX11_copy 112 = .ok (.getfield 40, 3) := by decide +kernel
theorem dX11_copy_115 : decode cX11_copy 115 = .ok (.getfield 326, 3) := by decide +kernel
theorem dX11_copy_118 : decode cX11_copy 118 = .ok (.iload_n 3, 1) := by decide +kernel
theorem dX11_copy_119 : decode cX11_copy 119 = .ok (.bipush 40, 2) := by decide +kernel
theorem dX11_copy_121 : decode cX11_copy 121 = .ok (.imul, 1) := by decide +kernel
theorem dX11_copy_122 : decode cX11_copy 122 = .ok (.iload 4, 2) := by decide +kernel
theorem dX11_copy_124 : decode cX11_copy 124 = .ok (.iadd, 1) := by decide +kernel
theorem dX11_copy_125 : decode cX11_copy 125 = .ok (.iload 5, 2) := by decide +kernel
theorem dX11_copy_127 : decode cX11_copy 127 = .ok (.invokestatic 329, 3) := by decide +kernel
theorem dX11_copy_130 : decode cX11_copy 130 = .ok (.iload 5, 2) := by decide +kernel
theorem dX11_copy_132 : decode cX11_copy 132 = .ok (.ireturn, 1) := by decide +kernel
theorem dX11_men_0 : decode cX11_men 0 = .ok (.iload_n 1, 1) := by decide +kernel
theorem dX11_men_1 : decode cX11_men 1 = .ok (.invokestatic 233, 3) := by decide +kernel
theorem dX11_men_4 : decode cX11_men 4 = .ok (.ifCond .eq 23, 3) := by decide +kernel
theorem dX11_men_7 : decode cX11_men 7 = .ok (.iload_n 2, 1) := by decide +kernel
theorem dX11_men_8 : decode cX11_men 8 = .ok (.iconst 0, 1) := by decide +kernel
theorem dX11_men_9 : decode cX11_men 9 = .ok (.iconst 2, 1) := by decide +kernel
theorem dX11_men_10 : decode cX11_men 10 = .ok (.invokestatic 100, 3) := by decide +kernel
theorem dX11_men_13 : decode cX11_men 13 = .ok (.ifCond .eq 14, 3) := by decide +kernel
theorem dX11_men_16 : decode cX11_men 16 = .ok (.iload 4, 2) := by decide +kernel
theorem dX11_men_18 : decode cX11_men 18 = .ok (.iconst 0, 1) := by decide +kernel
theorem dX11_men_19 : decode cX11_men 19 = .ok (.bipush 10, 2) := by decide +kernel
theorem dX11_men_21 : decode cX11_men 21 = .ok (.invokestatic 100, 3) := by decide +kernel
theorem dX11_men_24 : decode cX11_men 24 = .ok (.ifCond .ne 6, 3) := by decide +kernel
theorem dX11_men_27 : decode cX11_men 27 = .ok (.bipush (-2), 2) := by decide +kernel
theorem dX11_men_29 : decode cX11_men 29 = .ok (.ireturn, 1) := by decide +kernel
theorem dX11_men_30 : decode cX11_men 30 = .ok (.aload_n 0, 1) := by decide +kernel
theorem dX11_men_31 : decode cX11_men 31 = .ok (.getfield 40, 3) := by decide +kernel
theorem dX11_men_34 : decode cX11_men 34 = .ok (.iload_n 1, 1) := by decide +kernel
theorem dX11_men_35 : decode cX11_men 35 = .ok (.invokevirtual 315, 3) := by decide +kernel
theorem dX11_men_38 : decode cX11_men 38 = .ok (.ifCond .ne 19, 3) := by decide +kernel
theorem dX11_men_41 : decode cX11_men 41 = .ok (.aload_n 0, 1) := by decide +kernel
theorem dX11_men_42 : decode cX11_men 42 = .ok (.getfield 40, 3) := by decide +kernel
theorem dX11_men_45 : decode cX11_men 45 = .ok (.getfield 320, 3) := by decide +kernel
theorem dX11_men_48 : decode cX11_men 48 = .ok (.iload_n 1, 1) := by decide +kernel
theorem dX11_men_49 : decode cX11_men 49 = .ok (.iaload, 1) := by decide +kernel
theorem dX11_men_50 : decode cX11_men 50 = .ok (.iload_n 2, 1) := by decide +kernel
theorem dX11_men_51 : decode cX11_men 51 = .ok (.if_icmp .eq 6, 3) := by decide +kernel
theorem dX11_men_54 : decode cX11_men 54 = .ok (.bipush (-13), 2) := by decide +kernel
theorem dX11_men_56 : decode cX11_men 56 = .ok (.ireturn, 1) := by decide +kernel
theorem dX11_men_57 : decode cX11_men 57 = .ok (.aload_n 0, 1) := by decide +kernel
theorem dX11_men_58 : decode cX11_men 58 = .ok (.getfield 40, 3) := by decide +kernel
theorem dX11_men_61 : decode cX11_men 61 = .ok (.iload_n 1, 1) := by decide +kernel
theorem dX11_men_62 : decode cX11_men 62 = .ok (.invokevirtual 315, 3) := by decide +kernel
theorem dX11_men_65 : decode cX11_men 65 = .ok (.ifCond .eq 6, 3) := by decide +kernel
theorem dX11_men_68 : decode cX11_men 68 = .ok (.bipush (-11), 2) := by decide +kernel
theorem dX11_men_70 : decode cX11_men 70 = .ok (.ireturn, 1) := by decide +kernel
theorem dX11_men_71 : decode cX11_men 71 = .ok (.iconst 0, 1) := by decide +kernel
theorem dX11_men_72 : decode cX11_men 72 = .ok (.istore 5, 2) := by decide +kernel
theorem dX11_men_74 : decode cX11_men 74 = .ok (.iconst 0, 1) := by decide +kernel
theorem dX11_men_75 : decode cX11_men 75 = .ok (.istore 6, 2) := by decide +kernel
theorem dX11_men_77 : decode cX11_men 77 = .ok (.iload 6, 2) := by decide +kernel
theorem dX11_men_79 : decode cX11_men 79 = .ok (.iload 4, 2) := by decide +kernel
theorem dX11_men_81 : decode cX11_men 81 = .ok (.if_icmp .ge 88, 3) := by decide +kernel
theorem dX11_men_84 : decode cX11_men 84 = .ok (.iload_n 3, 1) := by decide +kernel
theorem dX11_men_85 : decode cX11_men 85 = .ok (.iconst 3, 1) := by decide +kernel
theorem dX11_men_86 : decode cX11_men 86 = .ok (.iload 6, 2) := by decide +kernel
theorem dX11_men_88 : decode cX11_men 88 = .ok (.imul, 1) := by decide +kernel
theorem dX11_men_89 : decode cX11_men 89 = .ok (.iadd, 1) := by decide +kernel
theorem dX11_men_90 : decode cX11_men 90 = .ok (.istore 7, 2) := by decide +kernel
theorem dX11_men_92 : decode cX11_men 92 = .ok (.aload_n 0, 1) := by decide +kernel
theorem dX11_men_93 : decode cX11_men 93 = .ok (.getfield 40, 3) := by decide +kernel
theorem dX11_men_96 : decode cX11_men 96 = .ok (.iload_n 1, 1) := by decide +kernel
theorem dX11_men_97 : decode cX11_men 97 = .ok (.iload 7, 2) := by decide +kernel
theorem dX11_men_99 : decode cX11_men 99 = .ok (.iconst 3, 1) := by decide +kernel
theorem dX11_men_100 : decode cX11_men 100 = .ok (.invokevirtual 323, 3) := by decide +kernel
theorem dX11_men_103 : decode cX11_men 103 = .ok (.ifCond .ne 6, 3) := by decide +kernel
theorem dX11_men_106 : decode cX11_men 106 = .ok (.bipush (-12), 2) := by decide +kernel
theorem dX11_men_108 : decode cX11_men 108 = .ok (.ireturn, 1) := by decide +kernel
theorem dX11_men_109 : decode cX11_men 109 = .ok (.aload_n 0, 1) := by decide +kernel
theorem dX11_men_110 : decode cX11_men 110 = .ok (.getfield 40, 3) := by decide +kernel
theorem dX11_men_113 : decode cX11_men 113 = .ok (.iload_n 1, 1) := by decide +kernel
theorem dX11_men_114 : decode cX11_men 114 = .ok (.iload 7, 2) := by decide +kernel
theorem dX11_men_116 : decode cX11_men 116 = .ok (.invokevirtual 244, 3) := by decide +kernel
theorem dX11_men_119 : decode cX11_men 119 = .ok (.istore 8, 2) := by decide +kernel
theorem dX11_men_121 : decode cX11_men 121 = .ok (.aload_n 0, 1) := by decide +kernel
theorem dX11_men_122 : decode cX11_men 122 = .ok (.getfield 12, 3) := by decide +kernel
theorem dX11_men_125 : decode cX11_men 125 = .ok (.getfield 86, 3) := by decide +kernel
theorem dX11_men_128 : decode cX11_men 128 = .ok (.iload 8, 2) := by decide +kernel
theorem dX11_men_130 : decode cX11_men 130 = .ok (.aload_n 0, 1) := by decide +kernel
theorem dX11_men_131 : decode cX11_men 131 = .ok (.getfield 40, 3) := by decide +kernel
theorem dX11_men_134 : decode cX11_men 134 = .ok (.iload_n 1, 1) := by decide +kernel
theorem dX11_men_135 : decode cX11_men 135 = .ok (.iload 7, 2) := by decide +kernel
theorem dX11_men_137 : decode cX11_men 137 = .ok (.iconst 1, 1) := by decide +kernel
theorem dX11_men_138 : decode cX11_men 138 = .ok (.iadd, 1) := by decide +kernel
theorem dX11_men_139 : decode cX11_men 139 = .ok (.invokevirtual 244, 3) := by decide +kernel
theorem dX11_men_142 : decode cX11_men 142 = .ok (.aload_n 0, 1) := by decide +kernel
theorem dX11_men_143 : decode cX11_men 143 = .ok (.getfield 40, 3) := by decide +kernel
theorem dX11_men_146 : decode cX11_men 146 = .ok (.iload_n 1, 1) := by decide +kernel
theorem dX11_men_147 : decode cX11_men 147 = .ok (.iload 7, 2) := by decide +kernel
theorem dX11_men_149 : decode cX11_men 149 = .ok (.iconst 2, 1) := by decide +kernel
theorem dX11_men_150 : decode cX11_men 150 = .ok (.iadd, 1) := by decide +kernel
theorem dX11_men_151 : decode cX11_men 151 = .ok (.invokevirtual 244, 3) := by decide +kernel
theorem dX11_men_154 : decode cX11_men 154 = .ok (.invokevirtual 89, 3) := by decide +kernel
theorem dX11_men_157 : decode cX11_men 157 = .ok (.ifCond .lt 6, 3) := by decide +kernel
theorem dX11_men_160 : decode cX11_men 160 = .ok (.iinc 5 1, 3) := by decide +kernel
theorem dX11_men_163 : decode cX11_men 163 = .ok (.iinc 6 1, 3) := by decide +kernel
theorem dX11_men_166 : decode cX11_men 166 = .ok (.goto (-89), 3) := by decide +kernel
theorem dX11_men_169 : decode cX11_men 169 = .ok (.iload 5, 2) := by decide +kernel
theorem dX11_men_171 : decode cX11_men 171 = .ok (.ireturn, 1) := by decide +kernel
theorem dX11_taken_0 : decode cX11_taken 0 = .ok (.iload_n 2, 1) := by decide +kernel
theorem dX11_taken_1 : decode cX11_taken 1 = .ok (.iconst 0, 1) := by decide +kernel
theorem dX11_taken_2 : decode cX11_taken 2 = .ok (.iconst 5, 1) := by decide +kernel
theorem dX11_taken_3 : decode cX11_taken 3 = .ok (.invokestatic 100, 3) := by decide +kernel
theorem dX11_taken_6 : decode cX11_taken 6 = .ok (.ifCond .ne 6, 3) := by decide +kernel
theorem dX11_taken_9 : decode cX11_taken 9 = .ok (.bipush (-2), 2) := by decide +kernel
theorem dX11_taken_11 : decode cX11_taken 11 = .ok (.ireturn, 1) := by decide +kernel
theorem dX11_taken_12 : decode cX11_taken 12 = .ok (.aload_n 0, 1) := by decide +kernel
theorem dX11_taken_13 : decode cX11_taken 13 = .ok (.getfield 12, 3) := by decide +kernel
theorem dX11_taken_16 : decode cX11_taken 16 = .ok (.getfield 189, 3) := by decide +kernel
theorem dX11_taken_19 : decode cX11_taken 19 = .ok (.iload_n 1, 1) := by decide +kernel
theorem dX11_taken_20 : decode cX11_taken 20 = .ok (.invokevirtual 201, 3) := by decide +kernel
theorem dX11_taken_23 : decode cX11_taken 23 = .ok (.ifCond .ne 6, 3) := by decide +kernel
theorem dX11_taken_26 : decode cX11_taken 26 = .ok (.bipush (-11), 2) := by decide +kernel
theorem dX11_taken_28 : decode cX11_taken 28 = .ok (.ireturn, 1) := by decide +kernel
theorem dX11_taken_29 : decode cX11_taken 29 = .ok (.aload_n 0, 1) := by decide +kernel
theorem dX11_taken_30 : decode cX11_taken 30 = .ok (.getfield 12, 3) := by decide +kernel
theorem dX11_taken_33 : decode cX11_taken 33 = .ok (.getfield 189, 3) := by decide +kernel
theorem dX11_taken_36 : decode cX11_taken 36 = .ok (.getfield 202, 3) := by decide +kernel
theorem dX11_taken_39 : decode cX11_taken 39 = .ok (.iload_n 1, 1) := by decide +kernel
theorem dX11_taken_40 : decode cX11_taken 40 = .ok (.iaload, 1) := by decide +kernel
theorem dX11_taken_41 : decode cX11_taken 41 = .ok (.iload_n 2, 1) := by decide +kernel
theorem dX11_taken_42 : decode cX11_taken 42 = .ok (.invokestatic 335, 3) := by decide +kernel
theorem dX11_taken_45 : decode cX11_taken 45 = .ok (.ifCond .eq 18, 3) := by decide +kernel
theorem dX11_taken_48 : decode cX11_taken 48 = .ok (.aload_n 0, 1) := by decide +kernel
theorem dX11_taken_49 : decode cX11_taken 49 = .ok (.getfield 12, 3) := by decide +kernel
theorem dX11_taken_52 : decode cX11_taken 52 = .ok (.getfield 189, 3) := by decide +kernel
theorem dX11_taken_55 : decode cX11_taken 55 = .ok (.getfield 338, 3) := by decide +kernel
theorem dX11_taken_58 : decode cX11_taken 58 = .ok (.iload_n 1, 1) := by decide +kernel
theorem dX11_taken_59 : decode cX11_taken 59 = .ok (.iaload, 1) := by decide +kernel
theorem dX11_taken_60 : decode cX11_taken 60 = .ok (.goto 5, 3) := by decide +kernel
theorem dX11_taken_63 : decode cX11_taken 63 = .ok (.bipush (-13), 2) := by decide +kernel
theorem dX11_taken_65 : decode cX11_taken 65 = .ok (.ireturn, 1) := by decide +kernel
theorem dX11_isWithin_0 : decode cX11_isWithin 0 = .ok (.iload_n 1, 1) := by decide +kernel
theorem dX11_isWithin_1 : decode cX11_isWithin 1 = .ok (.iload_n 0, 1) := by decide +kernel
theorem dX11_isWithin_2 : decode cX11_isWithin 2 = .ok (.if_icmp .gt 12, 3) := by decide +kernel
theorem dX11_isWithin_5 : decode cX11_isWithin 5 = .ok (.iload_n 0, 1) := by decide +kernel
theorem dX11_isWithin_6 : decode cX11_isWithin 6 = .ok (.iload_n 2, 1) := by decide +kernel
theorem dX11_isWithin_7 : decode cX11_isWithin 7 = .ok (.if_icmp .gt 7, 3) := by decide +kernel
theorem dX11_isWithin_10 : decode cX11_isWithin 10 = .ok (.iconst 1, 1) := by decide +kernel
theorem dX11_isWithin_11 : decode cX11_isWithin 11 = .ok (.goto 4, 3) := by decide +kernel
theorem dX11_isWithin_14 : decode cX11_isWithin 14 = .ok (.iconst 0, 1) := by decide +kernel
theorem dX11_isWithin_15 : decode cX11_isWithin 15 = .ok (.ireturn, 1) := by decide +kernel
theorem dX11_isSide_0 : decode cX11_isSide 0 = .ok (.iload_n 0, 1) := by decide +kernel
theorem dX11_isSide_1 : decode cX11_isSide 1 = .ok (.iconst 0, 1) := by decide +kernel
theorem dX11_isSide_2 : decode cX11_isSide 2 = .ok (.iconst 3, 1) := by decide +kernel
theorem dX11_isSide_3 : decode cX11_isSide 3 = .ok (.invokestatic 100, 3) := by decide +kernel
theorem dX11_isSide_6 : decode cX11_isSide 6 = .ok (.ireturn, 1) := by decide +kernel
theorem dX11_isPlace_0 : decode cX11_isPlace 0 = .ok (.iload_n 0, 1) := by decide +kernel
theorem dX11_isPlace_1 : decode cX11_isPlace 1 = .ok (.iconst 0, 1) := by decide +kernel
theorem dX11_isPlace_2 : decode cX11_isPlace 2 = .ok (.sipush 9999, 3) := by decide +kernel
theorem dX11_isPlace_5 : decode cX11_isPlace 5 = .ok (.invokestatic 100, 3) := by decide +kernel
theorem dX11_isPlace_8 : decode cX11_isPlace 8 = .ok (.ireturn, 1) := by decide +kernel
theorem dX11_isSpeed_0 : decode cX11_isSpeed 0 = .ok (.iload_n 0, 1) := by decide +kernel
theorem dX11_isSpeed_1 : decode cX11_isSpeed 1 = .ok (.bipush (-99), 2) := by decide +kernel
theorem dX11_isSpeed_3 : decode cX11_isSpeed 3 = .ok (.bipush 99, 2) := by decide +kernel
theorem dX11_isSpeed_5 : decode cX11_isSpeed 5 = .ok (.invokestatic 100, 3) := by decide +kernel
theorem dX11_isSpeed_8 : decode cX11_isSpeed 8 = .ok (.ireturn, 1) := by decide +kernel
theorem dX11_isPart_0 : decode cX11_isPart 0 = .ok (.iload_n 0, 1) := by decide +kernel
theorem dX11_isPart_1 : decode cX11_isPart 1 = .ok (.iconst 0, 1) := by decide +kernel
theorem dX11_isPart_2 : decode cX11_isPart 2 = .ok (.iconst 3, 1) := by decide +kernel
theorem dX11_isPart_3 : decode cX11_isPart 3 = .ok (.invokestatic 100, 3) := by decide +kernel
theorem dX11_isPart_6 : decode cX11_isPart 6 = .ok (.ireturn, 1) := by decide +kernel
theorem dX11_isTick_0 : decode cX11_isTick 0 = .ok (.iload_n 0, 1) := by decide +kernel
theorem dX11_isTick_1 : decode cX11_isTick 1 = .ok (.iconst 0, 1) := by decide +kernel
theorem dX11_isTick_2 : decode cX11_isTick 2 = .ok (.sipush 200, 3) := by decide +kernel
theorem dX11_isTick_5 : decode cX11_isTick 5 = .ok (.invokestatic 100, 3) := by decide +kernel
theorem dX11_isTick_8 : decode cX11_isTick 8 = .ok (.ireturn, 1) := by decide +kernel
theorem dX11_isWidth_0 : decode cX11_isWidth 0 = .ok (.iload_n 0, 1) := by decide +kernel
theorem dX11_isWidth_1 : decode cX11_isWidth 1 = .ok (.iconst 0, 1) := by decide +kernel
theorem dX11_isWidth_2 : decode cX11_isWidth 2 = .ok (.sipush 999, 3) := by decide +kernel
theorem dX11_isWidth_5 : decode cX11_isWidth 5 = .ok (.invokestatic 100, 3) := by decide +kernel
theorem dX11_isWidth_8 : decode cX11_isWidth 8 = .ok (.ireturn, 1) := by decide +kernel
theorem dX11_isSheet_0 : decode cX11_isSheet 0 = .ok (.iload_n 0, 1) := by decide +kernel
theorem dX11_isSheet_1 : decode cX11_isSheet 1 = .ok (.iconst 0, 1) := by decide +kernel
theorem dX11_isSheet_2 : decode cX11_isSheet 2 = .ok (.iconst 3, 1) := by decide +kernel
theorem dX11_isSheet_3 : decode cX11_isSheet 3 = .ok (.invokestatic 100, 3) := by decide +kernel
theorem dX11_isSheet_6 : decode cX11_isSheet 6 = .ok (.ireturn, 1) := by decide +kernel
theorem dX11_footIfNone_0 : decode cX11_footIfNone 0 = .ok (.iload_n 0, 1) := by decide +kernel
theorem dX11_footIfNone_1 : decode cX11_footIfNone 1 = .ok (.iconst (-1), 1) := by decide +kernel
theorem dX11_footIfNone_2 : decode cX11_footIfNone 2 = .ok (.if_icmp .ne 7, 3) := by decide +kernel
theorem dX11_footIfNone_5 : decode cX11_footIfNone 5 = .ok (.iconst 3, 1) := by decide +kernel
theorem dX11_footIfNone_6 : decode cX11_footIfNone 6 = .ok (.goto 4, 3) := by decide +kernel
theorem dX11_footIfNone_9 : decode cX11_footIfNone 9 = .ok (.iload_n 0, 1) := by decide +kernel
theorem dX11_footIfNone_10 : decode cX11_footIfNone 10 = .ok (.ireturn, 1) := by decide +kernel
theorem dX11_isUnder_0 : decode cX11_isUnder 0 = .ok (.iload_n 0, 1) := by decide +kernel
theorem dX11_isUnder_1 : decode cX11_isUnder 1 = .ok (.istore_n 2, 1) := by decide +kernel
theorem dX11_isUnder_2 : decode cX11_isUnder 2 = .ok (.iconst 0, 1) := by decide +kernel
theorem dX11_isUnder_3 : decode cX11_isUnder 3 = .ok (.istore_n 3, 1) := by decide +kernel
theorem dX11_isUnder_4 : decode cX11_isUnder 4 = .ok (.iload_n 3, 1) := by decide +kernel
theorem dX11_isUnder_5 : decode cX11_isUnder 5 = .ok (.bipush 6, 2) := by decide +kernel
theorem dX11_isUnder_7 : decode cX11_isUnder 7 = .ok (.if_icmp .ge 31, 3) := by decide +kernel
theorem dX11_isUnder_10 : decode cX11_isUnder 10 = .ok (.iload_n 2, 1) := by decide +kernel
theorem dX11_isUnder_11 : decode cX11_isUnder 11 = .ok (.iconst 0, 1) := by decide +kernel
theorem dX11_isUnder_12 : decode cX11_isUnder 12 = .ok (.iconst 5, 1) := by decide +kernel
theorem dX11_isUnder_13 : decode cX11_isUnder 13 = .ok (.invokestatic 100, 3) := by decide +kernel
theorem dX11_isUnder_16 : decode cX11_isUnder 16 = .ok (.ifCond .eq 22, 3) := by decide +kernel
theorem dX11_isUnder_19 : decode cX11_isUnder 19 = .ok (.iload_n 2, 1) := by decide +kernel
theorem dX11_isUnder_20 : decode cX11_isUnder 20 = .ok (.iload_n 1, 1) := by decide +kernel
theorem dX11_isUnder_21 : decode cX11_isUnder 21 = .ok (.if_icmp .ne 5, 3) := by decide +kernel
theorem dX11_isUnder_24 : decode cX11_isUnder 24 = .ok (.iconst 1, 1) := by decide +kernel
theorem dX11_isUnder_25 : decode cX11_isUnder 25 = .ok (.ireturn, 1) := by decide +kernel
theorem dX11_isUnder_26 : decode cX11_isUnder 26 = .ok (.getstatic 341, 3) := by decide +kernel
theorem dX11_isUnder_29 : decode cX11_isUnder 29 = .ok (.iload_n 2, 1) := by decide +kernel
theorem dX11_isUnder_30 : decode cX11_isUnder 30 = .ok (.iaload, 1) := by decide +kernel
theorem dX11_isUnder_31 : decode cX11_isUnder 31 = .ok (.istore_n 2, 1) := by decide +kernel
theorem dX11_isUnder_32 : decode cX11_isUnder 32 = .ok (.iinc 3 1, 3) := by decide +kernel
theorem dX11_isUnder_35 : decode cX11_isUnder 35 = .ok (.goto (-31), 3) := by decide +kernel
theorem dX11_isUnder_38 : decode cX11_isUnder 38 = .ok (.iconst 0, 1) := by decide +kernel
theorem dX11_isUnder_39 : decode cX11_isUnder 39 = .ok (.ireturn, 1) := by decide +kernel
theorem dJ6_bitCount_0f7a4_0 : decode cJ6_bitCount_0f7a4 0 = .ok (.iload_n 0, 1) := by decide +kernel
theorem dJ6_bitCount_0f7a4_1 : decode cJ6_bitCount_0f7a4 1 = .ok (.iload_n 0, 1) := by decide +kernel
theorem dJ6_bitCount_0f7a4_2 : decode cJ6_bitCount_0f7a4 2 = .ok (.iconst 1, 1) := by decide +kernel
theorem dJ6_bitCount_0f7a4_3 : decode cJ6_bitCount_0f7a4 3 = .ok (.iushr, 1) := by decide +kernel
theorem dJ6_bitCount_0f7a4_4 : decode cJ6_bitCount_0f7a4 4 = .ok (.ldc_w 265, 3) := by decide +kernel
theorem dJ6_bitCount_0f7a4_7 : decode cJ6_bitCount_0f7a4 7 = .ok (.iand, 1) := by decide +kernel
theorem dJ6_bitCount_0f7a4_8 : decode cJ6_bitCount_0f7a4 8 = .ok (.isub, 1) := by decide +kernel
theorem dJ6_bitCount_0f7a4_9 : decode cJ6_bitCount_0f7a4 9 = .ok (.istore_n 0, 1) := by decide +kernel
theorem dJ6_bitCount_0f7a4_10 : decode cJ6_bitCount_0f7a4 10 = .ok (.iload_n 0, 1) := by decide +kernel
theorem dJ6_bitCount_0f7a4_11 : decode cJ6_bitCount_0f7a4 11 = .ok (.ldc_w 266, 3) := by decide +kernel
theorem dJ6_bitCount_0f7a4_14 : decode cJ6_bitCount_0f7a4 14 = .ok (.iand, 1) := by decide +kernel
theorem dJ6_bitCount_0f7a4_15 : decode cJ6_bitCount_0f7a4 15 = .ok (.iload_n 0, 1) := by decide +kernel
theorem dJ6_bitCount_0f7a4_16 : decode cJ6_bitCount_0f7a4 16 = .ok (.iconst 2, 1) := by decide +kernel
theorem dJ6_bitCount_0f7a4_17 : decode cJ6_bitCount_0f7a4 17 = .ok (.iushr, 1) := by decide +kernel
theorem dJ6_bitCount_0f7a4_18 : decode cJ6_bitCount_0f7a4 18 = .ok (.ldc_w 266, 3) := by decide +kernel
theorem dJ6_bitCount_0f7a4_21 : decode cJ6_bitCount_0f7a4 21 = .ok (.iand, 1) := by decide +kernel
theorem dJ6_bitCount_0f7a4_22 : decode cJ6_bitCount_0f7a4 22 = .ok (.iadd, 1) := by decide +kernel
theorem dJ6_bitCount_0f7a4_23 : decode cJ6_bitCount_0f7a4 23 = .ok (.istore_n 0, 1) := by decide +kernel
theorem dJ6_bitCount_0f7a4_24 : decode cJ6_bitCount_0f7a4 24 = .ok (.iload_n 0, 1) := by decide +kernel
theorem dJ6_bitCount_0f7a4_25 : decode cJ6_bitCount_0f7a4 25 = .ok (.iload_n 0, 1) := by decide +kernel
theorem dJ6_bitCount_0f7a4_26 : decode cJ6_bitCount_0f7a4 26 = .ok (.iconst 4, 1) := by decide +kernel
theorem dJ6_bitCount_0f7a4_27 : decode cJ6_bitCount_0f7a4 27 = .ok (.iushr, 1) := by decide +kernel
theorem dJ6_bitCount_0f7a4_28 : decode cJ6_bitCount_0f7a4 28 = .ok (.iadd, 1) := by decide +kernel
theorem dJ6_bitCount_0f7a4_29 : decode cJ6_bitCount_0f7a4 29 = .ok (.ldc_w 267, 3) := by decide +kernel
theorem dJ6_bitCount_0f7a4_32 : decode cJ6_bitCount_0f7a4 32 = .ok (.iand, 1) := by decide +kernel
theorem dJ6_bitCount_0f7a4_33 : decode cJ6_bitCount_0f7a4 33 = .ok (.istore_n 0, 1) := by decide +kernel
theorem dJ6_bitCount_0f7a4_34 : decode cJ6_bitCount_0f7a4 34 = .ok (.iload_n 0, 1) := by decide +kernel
theorem dJ6_bitCount_0f7a4_35 : decode cJ6_bitCount_0f7a4 35 = .ok (.iload_n 0, 1) := by decide +kernel
theorem dJ6_bitCount_0f7a4_36 : decode cJ6_bitCount_0f7a4 36 = .ok (.bipush 8, 2) := by decide +kernel
theorem dJ6_bitCount_0f7a4_38 : decode cJ6_bitCount_0f7a4 38 = .ok (.iushr, 1) := by decide +kernel
theorem dJ6_bitCount_0f7a4_39 : decode cJ6_bitCount_0f7a4 39 = .ok (.iadd, 1) := by decide +kernel
theorem dJ6_bitCount_0f7a4_40 : decode cJ6_bitCount_0f7a4 40 = .ok (.istore_n 0, 1) := by decide +kernel
theorem dJ6_bitCount_0f7a4_41 : decode cJ6_bitCount_0f7a4 41 = .ok (.iload_n 0, 1) := by decide +kernel
theorem dJ6_bitCount_0f7a4_42 : decode cJ6_bitCount_0f7a4 42 = .ok (.iload_n 0, 1) := by decide +kernel
theorem dJ6_bitCount_0f7a4_43 : decode cJ6_bitCount_0f7a4 43 = .ok (.bipush 16, 2) := by decide +kernel
theorem dJ6_bitCount_0f7a4_45 : decode cJ6_bitCount_0f7a4 45 = .ok (.iushr, 1) := by decide +kernel
theorem dJ6_bitCount_0f7a4_46 : decode cJ6_bitCount_0f7a4 46 = .ok (.iadd, 1) := by decide +kernel
theorem dJ6_bitCount_0f7a4_47 : decode cJ6_bitCount_0f7a4 47 = .ok (.istore_n 0, 1) := by decide +kernel
theorem dJ6_bitCount_0f7a4_48 : decode cJ6_bitCount_0f7a4 48 = .ok (.iload_n 0, 1) := by decide +kernel
theorem dJ6_bitCount_0f7a4_49 : decode cJ6_bitCount_0f7a4 49 = .ok (.bipush 63, 2) := by decide +kernel
theorem dJ6_bitCount_0f7a4_51 : decode cJ6_bitCount_0f7a4 51 = .ok (.iand, 1) := by decide +kernel
theorem dJ6_bitCount_0f7a4_52 : decode cJ6_bitCount_0f7a4 52 = .ok (.ireturn, 1) := by decide +kernel
theorem dJ9_max_7cf53_0 : decode cJ9_max_7cf53 0 = .ok (.iload_n 0, 1) := by decide +kernel
theorem dJ9_max_7cf53_1 : decode cJ9_max_7cf53 1 = .ok (.iload_n 1, 1) := by decide +kernel
theorem dJ9_max_7cf53_2 : decode cJ9_max_7cf53 2 = .ok (.if_icmp .lt 7, 3) := by decide +kernel
theorem dJ9_max_7cf53_5 : decode cJ9_max_7cf53 5 = .ok (.iload_n 0, 1) := by decide +kernel
theorem dJ9_max_7cf53_6 : decode cJ9_max_7cf53 6 = .ok (.goto 4, 3) := by decide +kernel
theorem dJ9_max_7cf53_9 : decode cJ9_max_7cf53 9 = .ok (.iload_n 1, 1) := by decide +kernel
theorem dJ9_max_7cf53_10 : decode cJ9_max_7cf53 10 = .ok (.ireturn, 1) := by decide +kernel
theorem dJ9_min_7cf53_0 : decode cJ9_min_7cf53 0 = .ok (.iload_n 0, 1) := by decide +kernel
theorem dJ9_min_7cf53_1 : decode cJ9_min_7cf53 1 = .ok (.iload_n 1, 1) := by decide +kernel
theorem dJ9_min_7cf53_2 : decode cJ9_min_7cf53 2 = .ok (.if_icmp .gt 7, 3) := by decide +kernel
theorem dJ9_min_7cf53_5 : decode cJ9_min_7cf53 5 = .ok (.iload_n 0, 1) := by decide +kernel
theorem dJ9_min_7cf53_6 : decode cJ9_min_7cf53 6 = .ok (.goto 4, 3) := by decide +kernel
theorem dJ9_min_7cf53_9 : decode cJ9_min_7cf53 9 = .ok (.iload_n 1, 1) := by decide +kernel
theorem dJ9_min_7cf53_10 : decode cJ9_min_7cf53 10 = .ok (.ireturn, 1) := by decide +kernel
theorem dJ0_length_8abf5_0 : decode cJ0_length_8abf5 0 = .ok (.aload_n 0, 1) := by decide +kernel
theorem dJ0_length_8abf5_1 : decode cJ0_length_8abf5 1 = .ok (.getfield 9, 3) := by decide +kernel
theorem dJ0_length_8abf5_4 : decode cJ0_length_8abf5 4 = .ok (.arraylength, 1) := by decide +kernel
theorem dJ0_length_8abf5_5 : decode cJ0_length_8abf5 5 = .ok (.aload_n 0, 1) := by decide +kernel
theorem dJ0_length_8abf5_6 : decode cJ0_length_8abf5 6 = .ok (.invokevirtual 335, 3) := by decide +kernel
theorem dJ0_length_8abf5_9 : decode cJ0_length_8abf5 9 = .ok (.ishr, 1) := by decide +kernel
theorem dJ0_length_8abf5_10 : decode cJ0_length_8abf5 10 = .ok (.ireturn, 1) := by decide +kernel
theorem dJ0_charAt_5068e_0 : decode cJ0_charAt_5068e 0 = .ok (.aload_n 0, 1) := by decide +kernel
theorem dJ0_charAt_5068e_1 : decode cJ0_charAt_5068e 1 = .ok (.invokevirtual 492, 3) := by decide +kernel
theorem dJ0_charAt_5068e_4 : decode cJ0_charAt_5068e 4 = .ok (.ifCond .eq 12, 3) := by decide +kernel
theorem dJ0_charAt_5068e_7 : decode cJ0_charAt_5068e 7 = .ok (.aload_n 0, 1) := by decide +kernel
theorem dJ0_charAt_5068e_8 : decode cJ0_charAt_5068e 8 = .ok (.getfield 9, 3) := by decide +kernel
theorem dJ0_charAt_5068e_11 : decode cJ0_charAt_5068e 11 = .ok (.iload_n 1, 1) := by decide +kernel
theorem dJ0_charAt_5068e_12 : decode cJ0_charAt_5068e 12 = .ok (.invokestatic 495, 3) := by decide +kernel
theorem dJ0_charAt_5068e_15 : decode cJ0_charAt_5068e 15 = .ok (.ireturn, 1) := by decide +kernel
theorem dJ0_charAt_5068e_16 : decode cJ0_charAt_5068e 16 = .ok (.aload_n 0, 1) := by decide +kernel
theorem dJ0_charAt_5068e_17 : decode cJ0_charAt_5068e 17 = .ok (.getfield 9, 3) := by decide +kernel
theorem dJ0_charAt_5068e_20 : decode cJ0_charAt_5068e 20 = .ok (.iload_n 1, 1) := by decide +kernel
theorem dJ0_charAt_5068e_21 : decode cJ0_charAt_5068e 21 = .ok (.invokestatic 498, 3) := by decide +kernel
theorem dJ0_charAt_5068e_24 : decode cJ0_charAt_5068e 24 = .ok (.ireturn, 1) := by decide +kernel
theorem dJ0_coder_7d493_0 : decode cJ0_coder_7d493 0 = .ok (.getstatic 38, 3) := by decide +kernel
theorem dJ0_coder_7d493_3 : decode cJ0_coder_7d493 3 = .ok (.ifCond .eq 10, 3) := by decide +kernel
theorem dJ0_coder_7d493_6 : decode cJ0_coder_7d493 6 = .ok (.aload_n 0, 1) := by decide +kernel
theorem dJ0_coder_7d493_7 : decode cJ0_coder_7d493 7 = .ok (.getfield 15, 3) := by decide +kernel
theorem dJ0_coder_7d493_10 : decode cJ0_coder_7d493 10 = .ok (.goto 4, 3) := by decide +kernel
theorem dJ0_coder_7d493_13 : decode cJ0_coder_7d493 13 = .ok (.iconst 1, 1) := by decide +kernel
theorem dJ0_coder_7d493_14 : decode cJ0_coder_7d493 14 = .ok (.ireturn, 1) := by decide +kernel
theorem dJ0_isLatin1_aae02_0 : decode cJ0_isLatin1_aae02 0 = .ok (.getstatic 38, 3) := by decide +kernel
theorem dJ0_isLatin1_aae02_3 : decode cJ0_isLatin1_aae02 3 = .ok (.ifCond .eq 14, 3) := by decide +kernel
theorem dJ0_isLatin1_aae02_6 : decode cJ0_isLatin1_aae02 6 = .ok (.aload_n 0, 1) := by decide +kernel
theorem dJ0_isLatin1_aae02_7 : decode cJ0_isLatin1_aae02 7 = .ok (.getfield 15, 3) := by decide +kernel
theorem dJ0_isLatin1_aae02_10 : decode cJ0_isLatin1_aae02 10 = .ok (.ifCond .ne 7, 3) := by decide +kernel
theorem dJ0_isLatin1_aae02_13 : decode cJ0_isLatin1_aae02 13 = .ok (.iconst 1, 1) := by decide +kernel
theorem dJ0_isLatin1_aae02_14 : decode cJ0_isLatin1_aae02 14 = .ok (.goto 4, 3) := by decide +kernel
theorem dJ0_isLatin1_aae02_17 : decode cJ0_isLatin1_aae02 17 = .ok (.iconst 0, 1) := by decide +kernel
theorem dJ0_isLatin1_aae02_18 : decode cJ0_isLatin1_aae02 18 = .ok (.ireturn, 1) := by decide +kernel
theorem dJ0_checkIndex_df160_0 : decode cJ0_checkIndex_df160 0 = .ok (.iload_n 0, 1) := by decide +kernel
theorem dJ0_checkIndex_df160_1 : decode cJ0_checkIndex_df160 1 = .ok (.iload_n 1, 1) := by decide +kernel
theorem dJ0_checkIndex_df160_2 : decode cJ0_checkIndex_df160 2 = .ok (.getstatic 1053, 3) := by decide +kernel
theorem dJ0_checkIndex_df160_5 : decode cJ0_checkIndex_df160 5 = .ok (.invokestatic 1059, 3) := by decide +kernel
theorem dJ0_checkIndex_df160_8 : decode cJ0_checkIndex_df160 8 = .ok (.pop, 1) := by decide +kernel
theorem dJ0_checkIndex_df160_9 : decode cJ0_checkIndex_df160 9 = .ok (.return_, 1) := by decide +kernel
theorem dJ1_charAt_3b067_0 : decode cJ1_charAt_3b067 0 = .ok (.iload_n 1, 1) := by decide +kernel
theorem dJ1_charAt_3b067_1 : decode cJ1_charAt_3b067 1 = .ok (.aload_n 0, 1) := by decide +kernel
theorem dJ1_charAt_3b067_2 : decode cJ1_charAt_3b067 2 = .ok (.arraylength, 1) := by decide +kernel
theorem dJ1_charAt_3b067_3 : decode cJ1_charAt_3b067 3 = .ok (.invokestatic 9, 3) := by decide +kernel
theorem dJ1_charAt_3b067_6 : decode cJ1_charAt_3b067 6 = .ok (.aload_n 0, 1) := by decide +kernel
theorem dJ1_charAt_3b067_7 : decode cJ1_charAt_3b067 7 = .ok (.iload_n 1, 1) := by decide +kernel
theorem dJ1_charAt_3b067_8 : decode cJ1_charAt_3b067 8 = .ok (.baload, 1) := by decide +kernel
theorem dJ1_charAt_3b067_9 : decode cJ1_charAt_3b067 9 = .ok (.sipush 255, 3) := by decide +kernel
theorem dJ1_charAt_3b067_12 : decode cJ1_charAt_3b067 12 = .ok (.iand, 1) := by decide +kernel
theorem dJ1_charAt_3b067_13 : decode cJ1_charAt_3b067 13 = .ok (.i2c, 1) := by decide +kernel
theorem dJ1_charAt_3b067_14 : decode cJ1_charAt_3b067 14 = .ok (.ireturn, 1) := by decide +kernel
theorem dJ2_getChar_3b067_0 : decode cJ2_getChar_3b067 0 = .ok (.getstatic 44, 3) := by decide +kernel
theorem dJ2_getChar_3b067_3 : decode cJ2_getChar_3b067 3 = .ok (.ifCond .ne 25, 3) := by decide +kernel
theorem dJ2_getChar_3b067_6 : decode cJ2_getChar_3b067 6 = .ok (.iload_n 1, 1) := by decide +kernel
theorem dJ2_getChar_3b067_7 : decode cJ2_getChar_3b067 7 = .ok (.ifCond .lt 11, 3) := by decide +kernel
theorem dJ2_getChar_3b067_10 : decode cJ2_getChar_3b067 10 = .ok (.iload_n 1, 1) := by decide +kernel
theorem dJ2_getChar_3b067_11 : decode cJ2_getChar_3b067 11 = .ok (.aload_n 0, 1) := by decide +kernel
theorem dJ2_getChar_3b067_12 : decode cJ2_getChar_3b067 12 = .ok (.invokestatic 48, 3) := by decide +kernel
theorem dJ2_getChar_3b067_15 : decode cJ2_getChar_3b067 15 = .ok (.if_icmp .lt 13, 3) := by decide +kernel
theorem dJ2_getChar_3b067_18 : decode cJ2_getChar_3b067 18 = .ok (.new 52, 3) := by decide +kernel
theorem dJ2_getChar_3b067_21 : decode cJ2_getChar_3b067 21 = .ok (.dup, 1) := by decide +kernel
theorem dJ2_getChar_3b067_22 : decode cJ2_getChar_3b067 22 = .ok (.ldc 54, 2) := by decide +kernel
theorem dJ2_getChar_3b067_24 : decode cJ2_getChar_3b067 24 = .ok (.invokespecial 56, 3) := by decide +kernel
theorem dJ2_getChar_3b067_27 : decode cJ2_getChar_3b067 27 = .ok (.athrow, 1) := by decide +kernel
theorem dJ2_getChar_3b067_28 : decode cJ2_getChar_3b067 28 = .ok (.iload_n 1, 1) := by decide +kernel
theorem dJ2_getChar_3b067_29 : decode cJ2_getChar_3b067 29 = .ok (.iconst 1, 1) := by decide +kernel
theorem dJ2_getChar_3b067_30 : decode cJ2_getChar_3b067 30 = .ok (.ishl, 1) := by decide +kernel
theorem dJ2_getChar_3b067_31 : decode cJ2_getChar_3b067 31 = .ok (.istore_n 1, 1) := by decide +kernel
theorem dJ2_getChar_3b067_32 : decode cJ2_getChar_3b067 32 = .ok (.aload_n 0, 1) := by decide +kernel
theorem dJ2_getChar_3b067_33 : decode cJ2_getChar_3b067 33 = .ok (.iload_n 1, 1) := by decide +kernel
theorem dJ2_getChar_3b067_34 : decode cJ2_getChar_3b067 34 = .ok (.iinc 1 1, 3) := by decide +kernel
theorem dJ2_getChar_3b067_37 : decode cJ2_getChar_3b067 37 = .ok (.baload, 1) := by decide +kernel
theorem dJ2_getChar_3b067_38 : decode cJ2_getChar_3b067 38 = .ok (.sipush 255, 3) := by decide +kernel
theorem dJ2_getChar_3b067_41 : decode cJ2_getChar_3b067 41 = .ok (.iand, 1) := by decide +kernel
theorem dJ2_getChar_3b067_42 : decode cJ2_getChar_3b067 42 = .ok (.getstatic 59, 3) := by decide +kernel
theorem dJ2_getChar_3b067_45 : decode cJ2_getChar_3b067 45 = .ok (.ishl, 1) := by decide +kernel
theorem dJ2_getChar_3b067_46 : decode cJ2_getChar_3b067 46 = .ok (.aload_n 0, 1) := by decide +kernel
theorem dJ2_getChar_3b067_47 : decode cJ2_getChar_3b067 47 = .ok (.iload_n 1, 1) := by decide +kernel
theorem dJ2_getChar_3b067_48 : decode cJ2_getChar_3b067 48 = .ok (.baload, 1) := by decide +kernel
theorem dJ2_getChar_3b067_49 : decode cJ2_getChar_3b067 49 = .ok (.sipush 255, 3) := by decide +kernel
theorem dJ2_getChar_3b067_52 : decode cJ2_getChar_3b067 52 = .ok (.iand, 1) := by decide +kernel
theorem dJ2_getChar_3b067_53 : decode cJ2_getChar_3b067 53 = .ok (.getstatic 63, 3) := by decide +kernel
theorem dJ2_getChar_3b067_56 : decode cJ2_getChar_3b067 56 = .ok (.ishl, 1) := by decide +kernel
theorem dJ2_getChar_3b067_57 : decode cJ2_getChar_3b067 57 = .ok (.ior, 1) := by decide +kernel
theorem dJ2_getChar_3b067_58 : decode cJ2_getChar_3b067 58 = .ok (.i2c, 1) := by decide +kernel
theorem dJ2_getChar_3b067_59 : decode cJ2_getChar_3b067 59 = .ok (.ireturn, 1) := by decide +kernel
theorem dJ2_length_9d52b_0 : decode cJ2_length_9d52b 0 = .ok (.aload_n 0, 1) := by decide +kernel
theorem dJ2_length_9d52b_1 : decode cJ2_length_9d52b 1 = .ok (.arraylength, 1) := by decide +kernel
theorem dJ2_length_9d52b_2 : decode cJ2_length_9d52b 2 = .ok (.iconst 1, 1) := by decide +kernel
theorem dJ2_length_9d52b_3 : decode cJ2_length_9d52b 3 = .ok (.ishr, 1) := by decide +kernel
theorem dJ2_length_9d52b_4 : decode cJ2_length_9d52b 4 = .ok (.ireturn, 1) := by decide +kernel
theorem dJ2_charAt_3b067_0 : decode cJ2_charAt_3b067 0 = .ok (.iload_n 1, 1) := by decide +kernel
theorem dJ2_charAt_3b067_1 : decode cJ2_charAt_3b067 1 = .ok (.aload_n 0, 1) := by decide +kernel
theorem dJ2_charAt_3b067_2 : decode cJ2_charAt_3b067 2 = .ok (.invokestatic 67, 3) := by decide +kernel
theorem dJ2_charAt_3b067_5 : decode cJ2_charAt_3b067 5 = .ok (.aload_n 0, 1) := by decide +kernel
theorem dJ2_charAt_3b067_6 : decode cJ2_charAt_3b067 6 = .ok (.iload_n 1, 1) := by decide +kernel
theorem dJ2_charAt_3b067_7 : decode cJ2_charAt_3b067 7 = .ok (.invokestatic 71, 3) := by decide +kernel
theorem dJ2_charAt_3b067_10 : decode cJ2_charAt_3b067 10 = .ok (.ireturn, 1) := by decide +kernel
theorem dJ2_checkIndex_2214a_0 : decode cJ2_checkIndex_2214a 0 = .ok (.iload_n 0, 1) := by decide +kernel
theorem dJ2_checkIndex_2214a_1 : decode cJ2_checkIndex_2214a 1 = .ok (.aload_n 1, 1) := by decide +kernel
theorem dJ2_checkIndex_2214a_2 : decode cJ2_checkIndex_2214a 2 = .ok (.invokestatic 48, 3) := by decide +kernel
theorem dJ2_checkIndex_2214a_5 : decode cJ2_checkIndex_2214a 5 = .ok (.invokestatic 414, 3) := by decide +kernel
theorem dJ2_checkIndex_2214a_8 : decode cJ2_checkIndex_2214a 8 = .ok (.return_, 1) := by decide +kernel
theorem dJ3_checkIndex_8e157_0 : decode cJ3_checkIndex_8e157 0 = .ok (.iload_n 0, 1) := by decide +kernel
theorem dJ3_checkIndex_8e157_1 : decode cJ3_checkIndex_8e157 1 = .ok (.ifCond .lt 8, 3) := by decide +kernel
theorem dJ3_checkIndex_8e157_4 : decode cJ3_checkIndex_8e157 4 = .ok (.iload_n 0, 1) := by decide +kernel
theorem dJ3_checkIndex_8e157_5 : decode cJ3_checkIndex_8e157 5 = .ok (.iload_n 1, 1) := by decide +kernel
theorem dJ3_checkIndex_8e157_6 : decode cJ3_checkIndex_8e157 6 = .ok (.if_icmp .lt 10, 3) := by decide +kernel
theorem dJ3_checkIndex_8e157_9 : decode cJ3_checkIndex_8e157 9 = .ok (.aload_n 2, 1) := by decide +kernel
theorem dJ3_checkIndex_8e157_10 : decode cJ3_checkIndex_8e157 10 = .ok (.iload_n 0, 1) := by decide +kernel
theorem dJ3_checkIndex_8e157_11 : decode cJ3_checkIndex_8e157 11 = .ok (.iload_n 1, 1) := by decide +kernel
theorem dJ3_checkIndex_8e157_12 : decode cJ3_checkIndex_8e157 12 = .ok (.invokestatic 95, 3) := by decide +kernel
theorem dJ3_checkIndex_8e157_15 : decode cJ3_checkIndex_8e157 15 = .ok (.athrow, 1) := by decide +kernel
theorem dJ3_checkIndex_8e157_16 : decode cJ3_checkIndex_8e157 16 = .ok (.iload_n 0, 1) := by decide +kernel
theorem dJ3_checkIndex_8e157_17 : decode cJ3_checkIndex_8e157 17 = .ok (.ireturn, 1) := by decide +kernel
end
section
theorem dX12_in_0 : decode cX12_in 0 = .ok (.lload_n 0, 1) := by decide +kernel
theorem dX12_in_1 : decode cX12_in 1 = .ok (.lload_n 2, 1) := by decide +kernel
theorem dX12_in_2 : decode cX12_in 2 = .ok (.lcmp, 1) := by decide +kernel
theorem dX12_in_3 : decode cX12_in 3 = .ok (.ifCond .lt 14, 3) := by decide +kernel
theorem dX12_in_6 : decode cX12_in 6 = .ok (.lload_n 0, 1) := by decide +kernel
theorem dX12_in_7 : decode cX12_in 7 = .ok (.lload 4, 2) := by decide +kernel
theorem dX12_in_9 : decode cX12_in 9 = .ok (.lcmp, 1) := by decide +kernel
theorem dX12_in_10 : decode cX12_in 10 = .ok (.ifCond .gt 7, 3) := by decide +kernel
theorem dX12_in_13 : decode cX12_in 13 = .ok (.iconst 1, 1) := by decide +kernel
theorem dX12_in_14 : decode cX12_in 14 = .ok (.goto 4, 3) := by decide +kernel
theorem dX12_in_17 : decode cX12_in 17 = .ok (.iconst 0, 1) := by decide +kernel
theorem dX12_in_18 : decode cX12_in 18 = .ok (.ireturn, 1) := by decide +kernel
theorem dX12_init_0 : decode cX12_init 0 = .ok (.aload_n 0, 1) := by decide +kernel
theorem dX12_init_1 : decode cX12_init 1 = .ok (.invokespecial 7, 3) := by decide +kernel
theorem dX12_init_4 : decode cX12_init 4 = .ok (.aload_n 0, 1) := by decide +kernel
theorem dX12_init_5 : decode cX12_init 5 = .ok (.sipush 960, 3) := by decide +kernel
theorem dX12_init_8 : decode cX12_init 8 = .ok (.newarray .int, 2) := by decide +kernel
theorem dX12_init_10 : decode cX12_init 10 = .ok (.putfield 13, 3) := by decide +kernel
theorem dX12_init_13 : decode cX12_init 13 = .ok (.aload_n 0, 1) := by decide +kernel
theorem dX12_init_14 : decode cX12_init 14 = .ok (.bipush 6, 2) := by decide +kernel
theorem dX12_init_16 : decode cX12_init 16 = .ok (.newarray .int, 2) := by decide +kernel
theorem dX12_init_18 : decode cX12_init 18 = .ok (.putfield 17, 3) := by decide +kernel
theorem dX12_init_21 : decode cX12_init 21 = .ok (.aload_n 0, 1) := by decide +kernel
theorem dX12_init_22 : decode cX12_init 22 = .ok (.sipush 160, 3) := by decide +kernel
theorem dX12_init_25 : decode cX12_init 25 = .ok (.newarray .int, 2) := by decide +kernel
theorem dX12_init_27 : decode cX12_init 27 = .ok (.putfield 20, 3) := by decide +kernel
theorem dX12_init_30 : decode cX12_init 30 = .ok (.aload_n 0, 1) := by decide +kernel
theorem dX12_init_31 : decode cX12_init 31 = .ok (.bipush 10, 2) := by decide +kernel
theorem dX12_init_33 : decode cX12_init 33 = .ok (.newarray .int, 2) := by decide +kernel
theorem dX12_init_35 : decode cX12_init 35 = .ok (.putfield 23, 3) := by decide +kernel
theorem dX12_init_38 : decode cX12_init 38 = .ok (.aload_n 0, 1) := by decide +kernel
theorem dX12_init_39 : decode cX12_init 39 = .ok (.bipush 10, 2) := by decide +kernel
theorem dX12_init_41 : decode cX12_init 41 = .ok (.newarray .int, 2) := by decide +kernel
theorem dX12_init_43 : decode cX12_init 43 = .ok (.putfield 26, 3) := by decide +kernel
theorem dX12_init_46 : decode cX12_init 46 = .ok (.aload_n 0, 1) := by decide +kernel
theorem dX12_init_47 : decode cX12_init 47 = .ok (.bipush 10, 2) := by decide +kernel
theorem dX12_init_49 : decode cX12_init 49 = .ok (.newarray .int, 2) := by decide +kernel
theorem dX12_init_51 : decode cX12_init 51 = .ok (.putfield 29, 3) := by decide +kernel
theorem dX12_init_54 : decode cX12_init 54 = .ok (.aload_n 0, 1) := by decide +kernel
theorem dX12_init_55 : decode cX12_init 55 = .ok (.bipush 40, 2) := by decide +kernel
theorem dX12_init_57 : decode cX12_init 57 = .ok (.newarray .int, 2) := by decide +kernel
theorem dX12_init_59 : decode cX12_init 59 = .ok (.putfield 32, 3) := by decide +kernel
theorem dX12_init_62 : decode cX12_init 62 = .ok (.aload_n 0, 1) := by decide +kernel
theorem dX12_init_63 : decode cX12_init 63 = .ok (.iconst 4, 1) := by decide +kernel
theorem dX12_init_64 : decode cX12_init 64 = .ok (.newarray .int, 2) := by decide +kernel
theorem dX12_init_66 : decode cX12_init 66 = .ok (.putfield 35, 3) := by decide +kernel
theorem dX12_init_69 : decode cX12_init 69 = .ok (.aload_n 0, 1) := by decide +kernel
theorem dX12_init_70 : decode cX12_init 70 = .ok (.iconst 4, 1) := by decide +kernel
theorem dX12_init_71 : decode cX12_init 71 = .ok (.newarray .int, 2) := by decide +kernel
theorem dX12_init_73 : decode cX12_init 73 = .ok (.putfield 38, 3) := by decide +kernel
theorem dX12_init_76 : decode cX12_init 76 = .ok (.aload_n 0, 1) := by decide +kernel
theorem dX12_init_77 : decode cX12_init 77 = .ok (.iconst 4, 1) := by decide +kernel
theorem dX12_init_78 : decode cX12_init 78 = .ok (.newarray .int, 2) := by decide +kernel
theorem dX12_init_80 : decode cX12_init 80 = .ok (.putfield 41, 3) := by decide +kernel
theorem dX12_init_83 : decode cX12_init 83 = .ok (.aload_n 0, 1) := by decide +kernel
theorem dX12_init_84 : decode cX12_init 84 = .ok (.bipush 6, 2) := by decide +kernel
theorem dX12_init_86 : decode cX12_init 86 = .ok (.newarray .int, 2) := by decide +kernel
theorem dX12_init_88 : decode cX12_init 88 = .ok (.putfield 44, 3) := by decide +kernel
theorem dX12_init_91 : decode cX12_init 91 = .ok (.aload_n 0, 1) := by decide +kernel
theorem dX12_init_92 : decode cX12_init 92 = .ok (.bipush 6, 2) := by decide +kernel
theorem dX12_init_94 : decode cX12_init 94 = .ok (.newarray .int, 2) := by decide +kernel
theorem dX12_init_96 : decode cX12_init 96 = .ok (.putfield 47, 3) := by decide +kernel
theorem dX12_init_99 : decode cX12_init 99 = .ok (.aload_n 0, 1) := by decide +kernel
theorem dX12_init_100 : decode cX12_init 100 = .ok (.bipush 24, 2) := by decide +kernel
theorem dX12_init_102 : decode cX12_init 102 = .ok (.newarray .int, 2) := by decide +kernel
theorem dX12_init_104 : decode cX12_init 104 = .ok (.putfield 50, 3) := by decide +kernel
theorem dX12_init_107 : decode cX12_init 107 = .ok (.aload_n 0, 1) := by decide +kernel
theorem dX12_init_108 : decode cX12_init 108 = .ok (.bipush 24, 2) := by decide +kernel
theorem dX12_init_110 : decode cX12_init 110 = .ok (.newarray .int, 2) := by decide +kernel
theorem dX12_init_112 : decode cX12_init 112 = .ok (.putfield 53, 3) := by decide +kernel
theorem dX12_init_115 : decode cX12_init 115 = .ok (.aload_n 0, 1) := by decide +kernel
theorem dX12_init_116 : decode cX12_init 116 = .ok (.bipush 24, 2) := by decide +kernel
theorem dX12_init_118 : decode cX12_init 118 = .ok (.newarray .int, 2) := by decide +kernel
theorem dX12_init_120 : decode cX12_init 120 = .ok (.putfield 56, 3) := by decide +kernel
theorem dX12_init_123 : decode cX12_init 123 = .ok (.aload_n 0, 1) := by decide +kernel
theorem dX12_init_124 : decode cX12_init 124 = .ok (.bipush 24, 2) := by decide +kernel
theorem dX12_init_126 : decode cX12_init 126 = .ok (.newarray .int, 2) := by decide +kernel
theorem dX12_init_128 : decode cX12_init 128 = .ok (.putfield 59, 3) := by decide +kernel
theorem dX12_init_131 : decode cX12_init 131 = .ok (.aload_n 0, 1) := by decide +kernel
theorem dX12_init_132 : decode cX12_init 132 = .ok (.bipush 24, 2) := by decide +kernel
theorem dX12_init_134 : decode cX12_init 134 = .ok (.newarray .int, 2) := by decide +kernel
theorem dX12_init_136 : decode cX12_init 136 = .ok (.putfield 62, 3) := by decide +kernel
theorem dX12_init_139 : decode cX12_init 139 = .ok (.aload_n 0, 1) := by decide +kernel
theorem dX12_init_140 : decode cX12_init 140 = .ok (.bipush 24, 2) := by decide +kernel
theorem dX12_init_142 : decode cX12_init 142 = .ok (.newarray .int, 2) := by decide +kernel
theorem dX12_init_144 : decode cX12_init 144 = .ok (.putfield 65, 3) := by decide +kernel
theorem dX12_init_147 : decode cX12_init 147 = .ok (.aload_n 0, 1) := by decide +kernel
theorem dX12_init_148 : decode cX12_init 148 = .ok (.bipush 12, 2) := by decide +kernel
theorem dX12_init_150 : decode cX12_init 150 = .ok (.newarray .int, 2) := by decide +kernel
theorem dX12_init_152 : decode cX12_init 152 = .ok (.putfield 68, 3) := by decide +kernel
theorem dX12_init_155 : decode cX12_init 155 = .ok (.aload_n 0, 1) := by decide +kernel
theorem dX12_init_156 : decode cX12_init 156 = .ok (.bipush 12, 2) := by decide +kernel
theorem dX12_init_158 : decode cX12_init 158 = .ok (.newarray .int, 2) := by decide +kernel
theorem dX12_init_160 : decode cX12_init 160 = .ok (.putfield 71, 3) := by decide +kernel
theorem dX12_init_163 : decode cX12_init 163 = .ok (.aload_n 0, 1) := by decide +kernel
theorem dX12_init_164 : decode cX12_init 164 = .ok (.bipush 12, 2) := by decide +kernel
theorem dX12_init_166 : decode cX12_init 166 = .ok (.newarray .int, 2) := by decide +kernel
theorem dX12_init_168 : decode cX12_init 168 = .ok (.putfield 74, 3) := by decide +kernel
theorem dX12_init_171 : decode cX12_init 171 = .ok (.aload_n 0, 1) := by decide +kernel
theorem dX12_init_172 : decode cX12_init 172 = .ok (.bipush 12, 2) := by decide +kernel
theorem dX12_init_174 : decode cX12_init 174 = .ok (.newarray .int, 2) := by decide +kernel
theorem dX12_init_176 : decode cX12_init 176 = .ok (.putfield 77, 3) := by decide +kernel
theorem dX12_init_179 : decode cX12_init 179 = .ok (.aload_n 0, 1) := by decide +kernel
theorem dX12_init_180 : decode cX12_init 180 = .ok (.bipush 12, 2) := by decide +kernel
theorem dX12_init_182 : decode cX12_init 182 = .ok (.newarray .int, 2) := by decide +kernel
theorem dX12_init_184 : decode cX12_init 184 = .ok (.putfield 80, 3) := by decide +kernel
theorem dX12_init_187 : decode cX12_init 187 = .ok (.aload_n 0, 1) := by decide +kernel
theorem dX12_init_188 : decode cX12_init 188 = .ok (.iconst 4, 1) := by decide +kernel
theorem dX12_init_189 : decode cX12_init 189 = .ok (.newarray .int, 2) := by decide +kernel
theorem dX12_init_191 : decode cX12_init 191 = .ok (.putfield 83, 3) := by decide +kernel
theorem dX12_init_194 : decode cX12_init 194 = .ok (.aload_n 0, 1) := by decide +kernel
theorem dX12_init_195 : decode cX12_init 195 = .ok (.iconst 4, 1) := by decide +kernel
theorem dX12_init_196 : decode cX12_init 196 = .ok (.newarray .int, 2) := by decide +kernel
theorem dX12_init_198 : decode cX12_init 198 = .ok (.putfield 86, 3) := by decide +kernel
theorem dX12_init_201 : decode cX12_init 201 = .ok (.aload_n 0, 1) := by decide +kernel
theorem dX12_init_202 : decode cX12_init 202 = .ok (.iconst 4, 1) := by decide +kernel
theorem dX12_init_203 : decode cX12_init 203 = .ok (.newarray .int, 2) := by decide +kernel
theorem dX12_init_205 : decode cX12_init 205 = .ok (.putfield 89, 3) := by decide +kernel
theorem dX12_init_208 : decode cX12_init 208 = .ok (.aload_n 0, 1) := by decide +kernel
theorem dX12_init_209 : decode cX12_init 209 = .ok (.bipush 40, 2) := by decide +kernel
theorem dX12_init_211 : decode cX12_init 211 = .ok (.newarray .int, 2) := by decide +kernel
theorem dX12_init_213 : decode cX12_init 213 = .ok (.putfield 92, 3) := by decide +kernel
theorem dX12_init_216 : decode cX12_init 216 = .ok (.aload_n 0, 1) := by decide +kernel
theorem dX12_init_217 : decode cX12_init 217 = .ok (.bipush 40, 2) := by decide +kernel
theorem dX12_init_219 : decode cX12_init 219 = .ok (.newarray .int, 2) := by decide +kernel
theorem dX12_init_221 : decode cX12_init 221 = .ok (.putfield 95, 3) := by decide +kernel
theorem dX12_init_224 : decode cX12_init 224 = .ok (.aload_n 0, 1) := by decide +kernel
theorem dX12_init_225 : decode cX12_init 225 = .ok (.bipush 60, 2) := by decide +kernel
theorem dX12_init_227 : decode cX12_init 227 = .ok (.newarray .int, 2) := by decide +kernel
theorem dX12_init_229 : decode cX12_init 229 = .ok (.putfield 98, 3) := by decide +kernel
theorem dX12_init_232 : decode cX12_init 232 = .ok (.aload_n 0, 1) := by decide +kernel
theorem dX12_init_233 : decode cX12_init 233 = .ok (.iconst 4, 1) := by decide +kernel
theorem dX12_init_234 : decode cX12_init 234 = .ok (.newarray .boolean, 2) := by decide +kernel
theorem dX12_init_236 : decode cX12_init 236 = .ok (.putfield 101, 3) := by decide +kernel
theorem dX12_init_239 : decode cX12_init 239 = .ok (.aload_n 0, 1) := by decide +kernel
theorem dX12_init_240 : decode cX12_init 240 = .ok (.iconst 4, 1) := by decide +kernel
theorem dX12_init_241 : decode cX12_init 241 = .ok (.newarray .int, 2) := by decide +kernel
theorem dX12_init_243 : decode cX12_init 243 = .ok (.putfield 105, 3) := by decide +kernel
theorem dX12_init_246 : decode cX12_init 246 = .ok (.aload_n 0, 1) := by decide +kernel
theorem dX12_init_247 : decode cX12_init 247 = .ok (.iconst 4, 1) := by decide +kernel
theorem dX12_init_248 : decode cX12_init 248 = .ok (.newarray .int, 2) := by decide +kernel
theorem dX12_init_250 : decode cX12_init 250 = .ok (.putfield 108, 3) := by decide +kernel
theorem dX12_init_253 : decode cX12_init 253 = .ok (.aload_n 0, 1) := by decide +kernel
theorem dX12_init_254 : decode cX12_init 254 = .ok (.sipush 160, 3) := by decide +kernel
theorem dX12_init_257 : decode cX12_init 257 = .ok (.newarray .int, 2) := by decide +kernel
theorem dX12_init_259 : decode cX12_init 259 = .ok (.putfield 111, 3) := by decide +kernel
theorem dX12_init_262 : decode cX12_init 262 = .ok (.aload_n 0, 1) := by decide +kernel
theorem dX12_init_263 : decode cX12_init 263 = .ok (.iconst 0, 1) := by decide +kernel
theorem dX12_init_264 : decode cX12_init 264 = .ok (.ldc2_w 114, 3) := by decide +kernel
theorem dX12_init_267 : decode cX12_init 267 = .ok (.invokevirtual 116, 3) := by decide +kernel
theorem dX12_init_270 : decode cX12_init 270 = .ok (.aload_n 0, 1) := by decide +kernel
theorem dX12_init_271 : decode cX12_init 271 = .ok (.bipush 8, 2) := by decide +kernel
theorem dX12_init_273 : decode cX12_init 273 = .ok (.ldc2_w 120, 3) := by decide +kernel
theorem dX12_init_276 : decode cX12_init 276 = .ok (.invokevirtual 116, 3) := by decide +kernel
theorem dX12_init_279 : decode cX12_init 279 = .ok (.aload_n 0, 1) := by decide +kernel
theorem dX12_init_280 : decode cX12_init 280 = .ok (.bipush 16, 2) := by decide +kernel
theorem dX12_init_282 : decode cX12_init 282 = .ok (.ldc2_w 122, 3) := by decide +kernel
theorem dX12_init_285 : decode cX12_init 285 = .ok (.invokevirtual 116, 3) := by decide +kernel
theorem dX12_init_288 : decode cX12_init 288 = .ok (.aload_n 0, 1) := by decide +kernel
theorem dX12_init_289 : decode cX12_init 289 = .ok (.bipush 24, 2) := by decide +kernel
theorem dX12_init_291 : decode cX12_init 291 = .ok (.ldc2_w 124, 3) := by decide +kernel
theorem dX12_init_294 : decode cX12_init 294 = .ok (.invokevirtual 116, 3) := by decide +kernel
theorem dX12_init_297 : decode cX12_init 297 = .ok (.aload_n 0, 1) := by decide +kernel
theorem dX12_init_298 : decode cX12_init 298 = .ok (.bipush 32, 2) := by decide +kernel
theorem dX12_init_300 : decode cX12_init 300 = .ok (.ldc2_w 126, 3) := by decide +kernel
theorem dX12_init_303 : decode cX12_init 303 = .ok (.invokevirtual 116, 3) := by decide +kernel
theorem dX12_init_306 : decode cX12_init 306 = .ok (.aload_n 0, 1) := by decide +kernel
theorem dX12_init_307 : decode cX12_init 307 = .ok (.bipush 40, 2) := by decide +kernel
theorem dX12_init_309 : decode cX12_init 309 = .ok (.ldc2_w 128, 3) := by decide +kernel
theorem dX12_init_312 : decode cX12_init 312 = .ok (.invokevirtual 116, 3) := by decide +kernel
theorem dX12_init_315 : decode cX12_init 315 = .ok (.aload_n 0, 1) := by decide +kernel
theorem dX12_init_316 : decode cX12_init 316 = .ok (.getfield 17, 3) := by decide +kernel
theorem dX12_init_319 : decode cX12_init 319 = .ok (.iconst 0, 1) := by decide +kernel
theorem dX12_init_320 : decode cX12_init 320 = .ok (.bipush 48, 2) := by decide +kernel
theorem dX12_init_322 : decode cX12_init 322 = .ok (.iastore, 1) := by decide +kernel
theorem dX12_init_323 : decode cX12_init 323 = .ok (.aload_n 0, 1) := by decide +kernel
theorem dX12_init_324 : decode cX12_init 324 = .ok (.iconst 1, 1) := by decide +kernel
theorem dX12_init_325 : decode cX12_init 325 = .ok (.putfield 130, 3) := by decide +kernel
theorem dX12_init_328 : decode cX12_init 328 = .ok (.return_, 1) := by decide +kernel
theorem dX12_spell_0 : decode cX12_spell 0 = .ok (.iconst 0, 1) := by decide +kernel
theorem dX12_spell_1 : decode cX12_spell 1 = .ok (.istore 4, 2) := by decide +kernel
theorem dX12_spell_3 : decode cX12_spell 3 = .ok (.iload 4, 2) := by decide +kernel
theorem dX12_spell_5 : decode cX12_spell 5 = .ok (.bipush 8, 2) := by decide +kernel
theorem dX12_spell_7 : decode cX12_spell 7 = .ok (.if_icmp .ge 33, 3) := by decide +kernel
theorem dX12_spell_10 : decode cX12_spell 10 = .ok (.aload_n 0, 1) := by decide +kernel
theorem dX12_spell_11 : decode cX12_spell 11 = .ok (.getfield 13, 3) := by decide +kernel
theorem dX12_spell_14 : decode cX12_spell 14 = .ok (.iload_n 1, 1) := by decide +kernel
theorem dX12_spell_15 : decode cX12_spell 15 = .ok (.iload 4, 2) := by decide +kernel
theorem dX12_spell_17 : decode cX12_spell 17 = .ok (.iadd, 1) := by decide +kernel
theorem dX12_spell_18 : decode cX12_spell 18 = .ok (.lload_n 2, 1) := by decide +kernel
theorem dX12_spell_19 : decode cX12_spell 19 = .ok (.bipush 56, 2) := by decide +kernel
theorem dX12_spell_21 : decode cX12_spell 21 = .ok (.bipush 8, 2) := by decide +kernel
theorem dX12_spell_23 : decode cX12_spell 23 = .ok (.iload 4, 2) := by decide +kernel
theorem dX12_spell_25 : decode cX12_spell 25 = .ok (.imul, 1) := by decide +kernel
theorem dX12_spell_26 : decode cX12_spell 26 = .ok (.isub, 1) := by decide +kernel
theorem dX12_spell_27 : decode cX12_spell 27 = .ok (.lshr, 1) := by decide +kernel
theorem dX12_spell_28 : decode cX12_spell 28 = .ok (.ldc2_w 133, 3) := by decide +kernel
theorem dX12_spell_31 : decode cX12_spell 31 = .ok (.land, 1) := by decide +kernel
theorem dX12_spell_32 : decode cX12_spell 32 = .ok (.l2i, 1) := by decide +kernel
theorem dX12_spell_33 : decode cX12_spell 33 = .ok (.iastore, 1) := by decide +kernel
theorem dX12_spell_34 : decode cX12_spell 34 = .ok (.iinc 4 1, 3) := by decide +kernel
theorem dX12_spell_37 : decode cX12_spell 37 = .ok (.goto (-34), 3) := by decide +kernel
theorem dX12_spell_40 : decode cX12_spell 40 = .ok (.return_, 1) := by decide +kernel
theorem dX12_isMan_0 : decode cX12_isMan 0 = .ok (.iload_n 1, 1) := by decide +kernel
theorem dX12_isMan_1 : decode cX12_isMan 1 = .ok (.i2l, 1) := by decide +kernel
theorem dX12_isMan_2 : decode cX12_isMan 2 = .ok (.lconst 0, 1) := by decide +kernel
theorem dX12_isMan_3 : decode cX12_isMan 3 = .ok (.aload_n 0, 1) := by decide +kernel
theorem dX12_isMan_4 : decode cX12_isMan 4 = .ok (.getfield 135, 3) := by decide +kernel
theorem dX12_isMan_7 : decode cX12_isMan 7 = .ok (.iconst 1, 1) := by decide +kernel
theorem dX12_isMan_8 : decode cX12_isMan 8 = .ok (.isub, 1) := by decide +kernel
theorem dX12_isMan_9 : decode cX12_isMan 9 = .ok (.i2l, 1) := by decide +kernel
theorem dX12_isMan_10 : decode cX12_isMan 10 = .ok (.invokestatic 138, 3) := by decide +kernel
theorem dX12_isMan_13 : decode cX12_isMan 13 = .ok (.ireturn, 1) := by decide +kernel
theorem dX12_isTick_0 : decode cX12_isTick 0 = .ok (.iload_n 0, 1) := by decide +kernel
theorem dX12_isTick_1 : decode cX12_isTick 1 = .ok (.i2l, 1) := by decide +kernel
theorem dX12_isTick_2 : decode cX12_isTick 2 = .ok (.lconst 0, 1) := by decide +kernel
theorem dX12_isTick_3 : decode cX12_isTick 3 = .ok (.ldc2_w 142, 3) := by decide +kernel
theorem dX12_isTick_6 : decode cX12_isTick 6 = .ok (.invokestatic 138, 3) := by decide +kernel
theorem dX12_isTick_9 : decode cX12_isTick 9 = .ok (.ireturn, 1) := by decide +kernel
theorem dX12_isWidth_0 : decode cX12_isWidth 0 = .ok (.iload_n 0, 1) := by decide +kernel
theorem dX12_isWidth_1 : decode cX12_isWidth 1 = .ok (.i2l, 1) := by decide +kernel
theorem dX12_isWidth_2 : decode cX12_isWidth 2 = .ok (.lconst 0, 1) := by decide +kernel
theorem dX12_isWidth_3 : decode cX12_isWidth 3 = .ok (.ldc2_w 144, 3) := by decide +kernel
theorem dX12_isWidth_6 : decode cX12_isWidth 6 = .ok (.invokestatic 138, 3) := by decide +kernel
theorem dX12_isWidth_9 : decode cX12_isWidth 9 = .ok (.ireturn, 1) := by decide +kernel
theorem dX12_man_0 : decode cX12_man 0 = .ok (.iload_n 1, 1) := by decide +kernel
theorem dX12_man_1 : decode cX12_man 1 = .ok (.i2l, 1) := by decide +kernel
theorem dX12_man_2 : decode cX12_man 2 = .ok (.lconst 0, 1) := by decide +kernel
theorem dX12_man_3 : decode cX12_man 3 = .ok (.ldc2_w 146, 3) := by decide +kernel
theorem dX12_man_6 : decode cX12_man 6 = .ok (.invokestatic 138, 3) := by decide +kernel
theorem dX12_man_9 : decode cX12_man 9 = .ok (.ifCond .eq 29, 3) := by decide +kernel
theorem dX12_man_12 : decode cX12_man 12 = .ok (.iload_n 2, 1) := by decide +kernel
theorem dX12_man_13 : decode cX12_man 13 = .ok (.i2l, 1) := by decide +kernel
theorem dX12_man_14 : decode cX12_man 14 = .ok (.lconst 0, 1) := by decide +kernel
theorem dX12_man_15 : decode cX12_man 15 = .ok (.ldc2_w 148, 3) := by decide +kernel
theorem dX12_man_18 : decode cX12_man 18 = .ok (.invokestatic 138, 3) := by decide +kernel
theorem dX12_man_21 : decode cX12_man 21 = .ok (.ifCond .eq 17, 3) := by decide +kernel
theorem dX12_man_24 : decode cX12_man 24 = .ok (.iload_n 3, 1) := by decide +kernel
theorem dX12_man_25 : decode cX12_man 25 = .ok (.i2l, 1) := by decide +kernel
theorem dX12_man_26 : decode cX12_man 26 = .ok (.ldc2_w 150, 3) := by decide +kernel
theorem dX12_man_29 : decode cX12_man 29 = .ok (.ldc2_w 152, 3) := by decide +kernel
theorem dX12_man_32 : decode cX12_man 32 = .ok (.invokestatic 138, 3) := by decide +kernel
theorem dX12_man_35 : decode cX12_man 35 = .ok (.ifCond .ne 6, 3) := by decide +kernel
theorem dX12_man_38 : decode cX12_man 38 = .ok (.bipush (-2), 2) := by decide +kernel
theorem dX12_man_40 : decode cX12_man 40 = .ok (.ireturn, 1) := by decide +kernel
theorem dX12_man_41 : decode cX12_man 41 = .ok (.aload_n 0, 1) := by decide +kernel
theorem dX12_man_42 : decode cX12_man 42 = .ok (.getfield 135, 3) := by decide +kernel
theorem dX12_man_45 : decode cX12_man 45 = .ok (.bipush 10, 2) := by decide +kernel
theorem dX12_man_47 : decode cX12_man 47 = .ok (.if_icmp .ne 6, 3) := by decide +kernel
theorem dX12_man_50 : decode cX12_man 50 = .ok (.bipush (-4), 2) := by decide +kernel
theorem dX12_man_52 : decode cX12_man 52 = .ok (.ireturn, 1) := by decide +kernel
theorem dX12_man_53 : decode cX12_man 53 = .ok (.aload_n 0, 1) := by decide +kernel
theorem dX12_man_54 : decode cX12_man 54 = .ok (.getfield 23, 3) := by decide +kernel
theorem dX12_man_57 : decode cX12_man 57 = .ok (.aload_n 0, 1) := by decide +kernel
theorem dX12_man_58 : decode cX12_man 58 = .ok (.getfield 135, 3) := by decide +kernel
theorem dX12_man_61 : decode cX12_man 61 = .ok (.iload_n 1, 1) := by decide +kernel
theorem dX12_man_62 : decode cX12_man 62 = .ok (.iastore, 1) := by decide +kernel
theorem dX12_man_63 : decode cX12_man 63 = .ok (.aload_n 0, 1) := by decide +kernel
theorem dX12_man_64 : decode cX12_man 64 = .ok (.getfield 26, 3) := by decide +kernel
theorem dX12_man_67 : decode cX12_man 67 = .ok (.aload_n 0, 1) := by decide +kernel
theorem dX12_man_68 : decode cX12_man 68 = .ok (.getfield 135, 3) := by decide +kernel
theorem dX12_man_71 : decode cX12_man 71 = .ok (.iload_n 2, 1) := by decide +kernel
theorem dX12_man_72 : decode cX12_man 72 = .ok (.iastore, 1) := by decide +kernel
theorem dX12_man_73 : decode cX12_man 73 = .ok (.aload_n 0, 1) := by decide +kernel
theorem dX12_man_74 : decode cX12_man 74 = .ok (.getfield 29, 3) := by decide +kernel
theorem dX12_man_77 : decode cX12_man 77 = .ok (.aload_n 0, 1) := by decide +kernel
theorem dX12_man_78 : decode cX12_man 78 = .ok (.getfield 135, 3) := by decide +kernel
theorem dX12_man_81 : decode cX12_man 81 = .ok (.iload_n 3, 1) := by decide +kernel
theorem dX12_man_82 : decode cX12_man 82 = .ok (.iastore, 1) := by decide +kernel
theorem dX12_man_83 : decode cX12_man 83 = .ok (.iconst 0, 1) := by decide +kernel
theorem dX12_man_84 : decode cX12_man 84 = .ok (.istore 4, 2) := by decide +kernel
theorem dX12_man_86 : decode cX12_man 86 = .ok (.iload 4, 2) := by decide +kernel
theorem dX12_man_88 : decode cX12_man 88 = .ok (.iconst 4, 1) := by decide +kernel
theorem dX12_man_89 : decode cX12_man 89 = .ok (.if_icmp .ge 24, 3) := by decide +kernel
theorem dX12_man_92 : decode cX12_man 92 = .ok (.aload_n 0, 1) := by decide +kernel
theorem dX12_man_93 : decode cX12_man 93 = .ok (.getfield 32, 3) := by decide +kernel
theorem dX12_man_96 : decode cX12_man 96 = .ok (.iconst 4, 1) := by decide +kernel
theorem dX12_man_97 : decode cX12_man 97 = .ok (.aload_n 0, 1) := by decide +kernel
theorem dX12_man_98 : decode cX12_man 98 = .ok (.getfield 135, 3) := by decide +kernel
theorem dX12_man_101 : decode cX12_man 101 = .ok (.imul, 1) := by decide +kernel
theorem dX12_man_102 : decode cX12_man 102 = .ok (.iload 4, 2) := by decide +kernel
theorem dX12_man_104 : decode cX12_man 104 = .ok (.iadd, 1) := by decide +kernel
theorem dX12_man_105 : decode cX12_man 105 = .ok (.iconst 0, 1) := by decide +kernel
theorem dX12_man_106 : decode cX12_man 106 = .ok (.iastore, 1) := by decide +kernel
theorem dX12_man_107 : decode cX12_man 107 = .ok (.iinc 4 1, 3) := by decide +kernel
theorem dX12_man_110 : decode cX12_man 110 = .ok (.goto (-24), 3) := by decide +kernel
theorem dX12_man_113 : decode cX12_man 113 = .ok (.aload_n 0, 1) := by decide +kernel
theorem dX12_man_114 : decode cX12_man 114 = .ok (.dup, 1) := by decide +kernel
theorem dX12_man_115 : decode cX12_man 115 = .ok (.getfield 135, 3) := by decide +kernel
theorem dX12_man_118 : decode cX12_man 118 = .ok (.iconst 1, 1) := by decide +kernel
theorem dX12_man_119 : decode cX12_man 119 = .ok (.iadd, 1) := by decide +kernel
theorem dX12_man_120 : decode cX12_man 120 = .ok (.putfield 135, 3) := by decide +kernel
theorem dX12_man_123 : decode cX12_man 123 = .ok (.aload_n 0, 1) := by decide +kernel
theorem dX12_man_124 : decode cX12_man 124 = .ok (.getfield 135, 3) := by decide +kernel
theorem dX12_man_127 : decode cX12_man 127 = .ok (.iconst 1, 1) := by decide +kernel
theorem dX12_man_128 : decode cX12_man 128 = .ok (.isub, 1) := by decide +kernel
theorem dX12_man_129 : decode cX12_man 129 = .ok (.ireturn, 1) := by decide +kernel
theorem dX12_part_0 : decode cX12_part 0 = .ok (.aload_n 0, 1) := by decide +kernel
theorem dX12_part_1 : decode cX12_part 1 = .ok (.iload_n 1, 1) := by decide +kernel
theorem dX12_part_2 : decode cX12_part 2 = .ok (.invokevirtual 154, 3) := by decide +kernel
theorem dX12_part_5 : decode cX12_part 5 = .ok (.ifCond .eq 29, 3) := by decide +kernel
theorem dX12_part_8 : decode cX12_part 8 = .ok (.iload_n 2, 1) := by decide +kernel
theorem dX12_part_9 : decode cX12_part 9 = .ok (.i2l, 1) := by decide +kernel
theorem dX12_part_10 : decode cX12_part 10 = .ok (.lconst 0, 1) := by decide +kernel
theorem dX12_part_11 : decode cX12_part 11 = .ok (.ldc2_w 146, 3) := by decide +kernel
theorem dX12_part_14 : decode cX12_part 14 = .ok (.invokestatic 138, 3) := by decide +kernel
theorem dX12_part_17 : decode cX12_part 17 = .ok (.ifCond .eq 17, 3) := by decide +kernel
theorem dX12_part_20 : decode cX12_part 20 = .ok (.iload_n 3, 1) := by decide +kernel
theorem dX12_part_21 : decode cX12_part 21 = .ok (.i2l, 1) := by decide +kernel
theorem dX12_part_22 : decode cX12_part 22 = .ok (.ldc2_w 158, 3) := by decide +kernel
theorem dX12_part_25 : decode cX12_part 25 = .ok (.ldc2_w 160, 3) := by decide +kernel
theorem dX12_part_28 : decode cX12_part 28 = .ok (.invokestatic 138, 3) := by decide +kernel
theorem dX12_part_31 : decode cX12_part 31 = .ok (.ifCond .ne 7, 3) := by decide +kernel
theorem dX12_part_34 : decode cX12_part 34 = .ok (.sipush (-1000), 3) := by decide +kernel
theorem dX12_part_37 : decode cX12_part 37 = .ok (.ireturn, 1) := by decide +kernel
theorem dX12_part_38 : decode cX12_part 38 = .ok (.aload_n 0, 1) := by decide +kernel
theorem dX12_part_39 : decode cX12_part 39 = .ok (.getfield 32, 3) := by decide +kernel
theorem dX12_part_42 : decode cX12_part 42 = .ok (.iconst 4, 1) := by decide +kernel
theorem dX12_part_43 : decode cX12_part 43 = .ok (.iload_n 1, 1) := by decide +kernel
theorem dX12_part_44 : decode cX12_part 44 = .ok (.imul, 1) := by decide +kernel
theorem dX12_part_45 : decode cX12_part 45 = .ok (.iload_n 2, 1) := by decide +kernel
theorem dX12_part_46 : decode cX12_part 46 = .ok (.iadd, 1) := by decide +kernel
theorem dX12_part_47 : decode cX12_part 47 = .ok (.iaload, 1) := by decide +kernel
theorem dX12_part_48 : decode cX12_part 48 = .ok (.istore 4, 2) := by decide +kernel
theorem dX12_part_50 : decode cX12_part 50 = .ok (.aload_n 0, 1) := by decide +kernel
theorem dX12_part_51 : decode cX12_part 51 = .ok (.getfield 32, 3) := by decide +kernel
theorem dX12_part_54 : decode cX12_part 54 = .ok (.iconst 4, 1) := by decide +kernel
theorem dX12_part_55 : decode cX12_part 55 = .ok (.iload_n 1, 1) := by decide +kernel
theorem dX12_part_56 : decode cX12_part 56 = .ok (.imul, 1) := by decide +kernel
theorem dX12_part_57 : decode cX12_part 57 = .ok (.iload_n 2, 1) := by decide +kernel
theorem dX12_part_58 : decode cX12_part 58 = .ok (.iadd, 1) := by decide +kernel
theorem dX12_part_59 : decode cX12_part 59 = .ok (.iload_n 3, 1) := by decide +kernel
theorem dX12_part_60 : decode cX12_part 60 = .ok (.iastore, 1) := by decide +kernel
theorem dX12_part_61 : decode cX12_part 61 = .ok (.iload 4, 2) := by decide +kernel
theorem dX12_part_63 : decode cX12_part 63 = .ok (.ireturn, 1) := by decide +kernel
theorem dX12_move_0 : decode cX12_move 0 = .ok (.aload_n 0, 1) := by decide +kernel
theorem dX12_move_1 : decode cX12_move 1 = .ok (.iload_n 1, 1) := by decide +kernel
theorem dX12_move_2 : decode cX12_move 2 = .ok (.invokevirtual 154, 3) := by decide +kernel
theorem dX12_move_5 : decode cX12_move 5 = .ok (.ifCond .eq 45, 3) := by decide +kernel
theorem dX12_move_8 : decode cX12_move 8 = .ok (.iload_n 2, 1) := by decide +kernel
theorem dX12_move_9 : decode cX12_move 9 = .ok (.i2l, 1) := by decide +kernel
theorem dX12_move_10 : decode cX12_move 10 = .ok (.lconst 0, 1) := by decide +kernel
theorem dX12_move_11 : decode cX12_move 11 = .ok (.lconst 1, 1) := by decide +kernel
theorem dX12_move_12 : decode cX12_move 12 = .ok (.invokestatic 138, 3) := by decide +kernel
theorem dX12_move_15 : decode cX12_move 15 = .ok (.ifCond .eq 35, 3) := by decide +kernel
theorem dX12_move_18 : decode cX12_move 18 = .ok (.iload_n 3, 1) := by decide +kernel
theorem dX12_move_19 : decode cX12_move 19 = .ok (.i2l, 1) := by decide +kernel
theorem dX12_move_20 : decode cX12_move 20 = .ok (.iload_n 2, 1) := by decide +kernel
theorem dX12_move_21 : decode cX12_move 21 = .ok (.ifCond .ne 7, 3) := by decide +kernel
theorem dX12_move_24 : decode cX12_move 24 = .ok (.lconst 0, 1) := by decide +kernel
theorem dX12_move_25 : decode cX12_move 25 = .ok (.goto 6, 3) := by decide +kernel
theorem dX12_move_28 : decode cX12_move 28 = .ok (.ldc2_w 150, 3) := by decide +kernel
theorem dX12_move_31 : decode cX12_move 31 = .ok (.iload_n 2, 1) := by decide +kernel
theorem dX12_move_32 : decode cX12_move 32 = .ok (.ifCond .ne 9, 3) := by decide +kernel
theorem dX12_move_35 : decode cX12_move 35 = .ok (.ldc2_w 148, 3) := by decide +kernel
theorem dX12_move_38 : decode cX12_move 38 = .ok (.goto 6, 3) := by decide +kernel
theorem dX12_move_41 : decode cX12_move 41 = .ok (.ldc2_w 152, 3) := by decide +kernel
theorem dX12_move_44 : decode cX12_move 44 = .ok (.invokestatic 138, 3) := by decide +kernel
theorem dX12_move_47 : decode cX12_move 47 = .ok (.ifCond .ne 7, 3) := by decide +kernel
theorem dX12_move_50 : decode cX12_move 50 = .ok (.sipush (-1000), 3) := by decide +kernel
theorem dX12_move_53 : decode cX12_move 53 = .ok (.ireturn, 1) := by decide +kernel
theorem dX12_move_54 : decode cX12_move 54 = .ok (.iload_n 2, 1) := by decide +kernel
theorem dX12_move_55 : decode cX12_move 55 = .ok (.ifCond .ne 12, 3) := by decide +kernel
theorem dX12_move_58 : decode cX12_move 58 = .ok (.aload_n 0, 1) := by decide +kernel
theorem dX12_move_59 : decode cX12_move 59 = .ok (.getfield 26, 3) := by decide +kernel
theorem dX12_move_62 : decode cX12_move 62 = .ok (.iload_n 1, 1) := by decide +kernel
theorem dX12_move_63 : decode cX12_move 63 = .ok (.iaload, 1) := by decide +kernel
theorem dX12_move_64 : decode cX12_move 64 = .ok (.goto 9, 3) := by decide +kernel
theorem dX12_move_67 : decode cX12_move 67 = .ok (.aload_n 0, 1) := by decide +kernel
theorem dX12_move_68 : decode cX12_move 68 = .ok (.getfield 29, 3) := by decide +kernel
theorem dX12_move_71 : decode cX12_move 71 = .ok (.iload_n 1, 1) := by decide +kernel
theorem dX12_move_72 : decode cX12_move 72 = .ok (.iaload, 1) := by decide +kernel
theorem dX12_move_73 : decode cX12_move 73 = .ok (.istore 4, 2) := by decide +kernel
theorem dX12_move_75 : decode cX12_move 75 = .ok (.iload_n 2, 1) := by decide +kernel
theorem dX12_move_76 : decode cX12_move 76 = .ok (.ifCond .ne 13, 3) := by decide +kernel
theorem dX12_move_79 : decode cX12_move 79 = .ok (.aload_n 0, 1) := by decide +kernel
theorem dX12_move_80 : decode cX12_move 80 = .ok (.getfield 26, 3) := by decide +kernel
theorem dX12_move_83 : decode cX12_move 83 = .ok (.iload_n 1, 1) := by decide +kernel
theorem dX12_move_84 : decode cX12_move 84 = .ok (.iload_n 3, 1) := by decide +kernel
theorem dX12_move_85 : decode cX12_move 85 = .ok (.iastore, 1) := by decide +kernel
theorem dX12_move_86 : decode cX12_move 86 = .ok (.goto 10, 3) := by decide +kernel
theorem dX12_move_89 : decode cX12_move 89 = .ok (.aload_n 0, 1) := by decide +kernel
theorem dX12_move_90 : decode cX12_move 90 = .ok (.getfield 29, 3) := by decide +kernel
theorem dX12_move_93 : decode cX12_move 93 = .ok (.iload_n 1, 1) := by decide +kernel
theorem dX12_move_94 : decode cX12_move 94 = .ok (.iload_n 3, 1) := by decide +kernel
theorem dX12_move_95 : decode cX12_move 95 = .ok (.iastore, 1) := by decide +kernel
theorem dX12_move_96 : decode cX12_move 96 = .ok (.iload 4, 2) := by decide +kernel
theorem dX12_move_98 : decode cX12_move 98 = .ok (.ireturn, 1) := by decide +kernel
theorem dX12_feed_0 : decode cX12_feed 0 = .ok (.iload_n 1, 1) := by decide +kernel
theorem dX12_feed_1 : decode cX12_feed 1 = .ok (.i2l, 1) := by decide +kernel
theorem dX12_feed_2 : decode cX12_feed 2 = .ok (.lconst 1, 1) := by decide +kernel
theorem dX12_feed_3 : decode cX12_feed 3 = .ok (.ldc2_w 162, 3) := by decide +kernel
theorem dX12_feed_6 : decode cX12_feed 6 = .ok (.invokestatic 138, 3) := by decide +kernel
theorem dX12_feed_9 : decode cX12_feed 9 = .ok (.ifCond .ne 6, 3) := by decide +kernel
theorem dX12_feed_12 : decode cX12_feed 12 = .ok (.bipush (-2), 2) := by decide +kernel
theorem dX12_feed_14 : decode cX12_feed 14 = .ok (.ireturn, 1) := by decide +kernel
theorem dX12_feed_15 : decode cX12_feed 15 = .ok (.aload_n 0, 1) := by decide +kernel
theorem dX12_feed_16 : decode cX12_feed 16 = .ok (.getfield 164, 3) := by decide +kernel
theorem dX12_feed_19 : decode cX12_feed 19 = .ok (.iload_n 1, 1) := by decide +kernel
theorem dX12_feed_20 : decode cX12_feed 20 = .ok (.iadd, 1) := by decide +kernel
theorem dX12_feed_21 : decode cX12_feed 21 = .ok (.sipush 160, 3) := by decide +kernel
theorem dX12_feed_24 : decode cX12_feed 24 = .ok (.if_icmp .le 6, 3) := by decide +kernel
theorem dX12_feed_27 : decode cX12_feed 27 = .ok (.bipush (-4), 2) := by decide +kernel
theorem dX12_feed_29 : decode cX12_feed 29 = .ok (.ireturn, 1) := by decide +kernel
theorem dX12_feed_30 : decode cX12_feed 30 = .ok (.iconst 0, 1) := by decide +kernel
theorem dX12_feed_31 : decode cX12_feed 31 = .ok (.istore 4, 2) := by decide +kernel
theorem dX12_feed_33 : decode cX12_feed 33 = .ok (.iload 4, 2) := by decide +kernel
theorem dX12_feed_35 : decode cX12_feed 35 = .ok (.iload_n 1, 1) := by decide +kernel
theorem dX12_feed_36 : decode cX12_feed 36 = .ok (.if_icmp .ge 40, 3) := by decide +kernel
theorem dX12_feed_39 : decode cX12_feed 39 = .ok (.aload_n 0, 1) := by decide +kernel
theorem dX12_feed_40 : decode cX12_feed 40 = .ok (.getfield 20, 3) := by decide +kernel
theorem dX12_feed_43 : decode cX12_feed 43 = .ok (.aload_n 0, 1) := by decide +kernel
theorem dX12_feed_44 : decode cX12_feed 44 = .ok (.getfield 164, 3) := by decide +kernel
theorem dX12_feed_47 : decode cX12_feed 47 = .ok (.lload_n 2, 1) := by decide +kernel
theorem dX12_feed_48 : decode cX12_feed 48 = .ok (.bipush 8, 2) := by decide +kernel
theorem dX12_feed_50 : decode cX12_feed 50 = .ok (.iload 4, 2) := by decide +kernel
theorem dX12_feed_52 : decode cX12_feed 52 = .ok (.imul, 1) := by decide +kernel
theorem dX12_feed_53 : decode cX12_feed 53 = .ok (.lshr, 1) := by decide +kernel
theorem dX12_feed_54 : decode cX12_feed 54 = .ok (.ldc2_w 133, 3) := by decide +kernel
theorem dX12_feed_57 : decode cX12_feed 57 = .ok (.land, 1) := by decide +kernel
theorem dX12_feed_58 : decode cX12_feed 58 = .ok (.l2i, 1) := by decide +kernel
theorem dX12_feed_59 : decode cX12_feed 59 = .ok (.iastore, 1) := by decide +kernel
theorem dX12_feed_60 : decode cX12_feed 60 = .ok (.aload_n 0, 1) := by decide +kernel
theorem dX12_feed_61 : decode cX12_feed 61 = .ok (.dup, 1) := by decide +kernel
theorem dX12_feed_62 : decode cX12_feed 62 = .ok (.getfield 164, 3) := by decide +kernel
theorem dX12_feed_65 : decode cX12_feed 65 = .ok (.iconst 1, 1) := by decide +kernel
theorem dX12_feed_66 : decode cX12_feed 66 = .ok (.iadd, 1) := by decide +kernel
theorem dX12_feed_67 : decode cX12_feed 67 = .ok (.putfield 164, 3) := by decide +kernel
theorem dX12_feed_70 : decode cX12_feed 70 = .ok (.iinc 4 1, 3) := by decide +kernel
theorem dX12_feed_73 : decode cX12_feed 73 = .ok (.goto (-40), 3) := by decide +kernel
theorem dX12_feed_76 : decode cX12_feed 76 = .ok (.aload_n 0, 1) := by decide +kernel
theorem dX12_feed_77 : decode cX12_feed 77 = .ok (.getfield 164, 3) := by decide +kernel
theorem dX12_feed_80 : decode cX12_feed 80 = .ok (.ireturn, 1) := by decide +kernel
theorem dX12_byteAt_0 : decode cX12_byteAt 0 = .ok (.iload_n 1, 1) := by decide +kernel
theorem dX12_byteAt_1 : decode cX12_byteAt 1 = .ok (.aload_n 0, 1) := by decide +kernel
theorem dX12_byteAt_2 : decode cX12_byteAt 2 = .ok (.getfield 167, 3) := by decide +kernel
theorem dX12_byteAt_5 : decode cX12_byteAt 5 = .ok (.if_icmp .ge 17, 3) := by decide +kernel
theorem dX12_byteAt_8 : decode cX12_byteAt 8 = .ok (.aload_n 0, 1) := by decide +kernel
theorem dX12_byteAt_9 : decode cX12_byteAt 9 = .ok (.getfield 13, 3) := by decide +kernel
theorem dX12_byteAt_12 : decode cX12_byteAt 12 = .ok (.aload_n 0, 1) := by decide +kernel
theorem dX12_byteAt_13 : decode cX12_byteAt 13 = .ok (.getfield 170, 3) := by decide +kernel
theorem dX12_byteAt_16 : decode cX12_byteAt 16 = .ok (.iload_n 1, 1) := by decide +kernel
theorem dX12_byteAt_17 : decode cX12_byteAt 17 = .ok (.iadd, 1) := by decide +kernel
theorem dX12_byteAt_18 : decode cX12_byteAt 18 = .ok (.iaload, 1) := by decide +kernel
theorem dX12_byteAt_19 : decode cX12_byteAt 19 = .ok (.goto 4, 3) := by decide +kernel
theorem dX12_byteAt_22 : decode cX12_byteAt 22 = .ok (.iconst (-1), 1) := by decide +kernel
theorem dX12_byteAt_23 : decode cX12_byteAt 23 = .ok (.ireturn, 1) := by decide +kernel
theorem dX12_next_0 : decode cX12_next 0 = .ok (.aload_n 0, 1) := by decide +kernel
theorem dX12_next_1 : decode cX12_next 1 = .ok (.aload_n 0, 1) := by decide +kernel
theorem dX12_next_2 : decode cX12_next 2 = .ok (.getfield 173, 3) := by decide +kernel
theorem dX12_next_5 : decode cX12_next 5 = .ok (.invokevirtual 176, 3) := by decide +kernel
theorem dX12_next_8 : decode cX12_next 8 = .ok (.bipush 32, 2) := by decide +kernel
theorem dX12_next_10 : decode cX12_next 10 = .ok (.if_icmp .eq 16, 3) := by decide +kernel
theorem dX12_next_13 : decode cX12_next 13 = .ok (.aload_n 0, 1) := by decide +kernel
theorem dX12_next_14 : decode cX12_next 14 = .ok (.aload_n 0, 1) := by decide +kernel
theorem dX12_next_15 : decode cX12_next 15 = .ok (.getfield 173, 3) := by decide +kernel
theorem dX12_next_18 : decode cX12_next 18 = .ok (.invokevirtual 176, 3) := by decide +kernel
theorem dX12_next_21 : decode cX12_next 21 = .ok (.bipush 10, 2) := by decide +kernel
theorem dX12_next_23 : decode cX12_next 23 = .ok (.if_icmp .ne 16, 3) := by decide +kernel
theorem dX12_next_26 : decode cX12_next 26 = .ok (.aload_n 0, 1) := by decide +kernel
theorem dX12_next_27 : decode cX12_next 27 = .ok (.dup, 1) := by decide +kernel
theorem dX12_next_28 : decode cX12_next 28 = .ok (.getfield 173, 3) := by decide +kernel
theorem dX12_next_31 : decode cX12_next 31 = .ok (.iconst 1, 1) := by decide +kernel
theorem dX12_next_32 : decode cX12_next 32 = .ok (.iadd, 1) := by decide +kernel
theorem dX12_next_33 : decode cX12_next 33 = .ok (.putfield 173, 3) := by decide +kernel
theorem dX12_next_36 : decode cX12_next 36 = .ok (.goto (-36), 3) := by decide +kernel
theorem dX12_next_39 : decode cX12_next 39 = .ok (.aload_n 0, 1) := by decide +kernel
theorem dX12_next_40 : decode cX12_next 40 = .ok (.aload_n 0, 1) := by decide +kernel
theorem dX12_next_41 : decode cX12_next 41 = .ok (.getfield 173, 3) := by decide +kernel
theorem dX12_next_44 : decode cX12_next 44 = .ok (.putfield 180, 3) := by decide +kernel
theorem dX12_next_47 : decode cX12_next 47 = .ok (.aload_n 0, 1) := by decide +kernel
theorem dX12_next_48 : decode cX12_next 48 = .ok (.aload_n 0, 1) := by decide +kernel
theorem dX12_next_49 : decode cX12_next 49 = .ok (.getfield 173, 3) := by decide +kernel
theorem dX12_next_52 : decode cX12_next 52 = .ok (.invokevirtual 176, 3) := by decide +kernel
theorem dX12_next_55 : decode cX12_next 55 = .ok (.istore_n 1, 1) := by decide +kernel
theorem dX12_next_56 : decode cX12_next 56 = .ok (.aload_n 0, 1) := by decide +kernel
theorem dX12_next_57 : decode cX12_next 57 = .ok (.iconst 4, 1) := by decide +kernel
theorem dX12_next_58 : decode cX12_next 58 = .ok (.putfield 183, 3) := by decide +kernel
theorem dX12_next_61 : decode cX12_next 61 = .ok (.iload_n 1, 1) := by decide +kernel
theorem dX12_next_62 : decode cX12_next 62 = .ok (.ifCond .ge 19, 3) := by decide +kernel
theorem dX12_next_65 : decode cX12_next 65 = .ok (.aload_n 0, 1) := by decide +kernel
theorem dX12_next_66 : decode cX12_next 66 = .ok (.iconst 0, 1) := by decide +kernel
theorem dX12_next_67 : decode cX12_next 67 = .ok (.putfield 183, 3) := by decide +kernel
theorem dX12_next_70 : decode cX12_next 70 = .ok (.aload_n 0, 1) := by decide +kernel
theorem dX12_next_71 : decode cX12_next 71 = .ok (.aload_n 0, 1) := by decide +kernel
theorem dX12_next_72 : decode cX12_next 72 = .ok (.getfield 167, 3) := by decide +kernel
theorem dX12_next_75 : decode cX12_next 75 = .ok (.putfield 180, 3) := by decide +kernel
theorem dX12_next_78 : decode cX12_next 78 = .ok (.goto 294, 3) := by decide +kernel
theorem dX12_next_81 : decode cX12_next 81 = .ok (.iload_n 1, 1) := by decide +kernel
theorem dX12_next_82 : decode cX12_next 82 = .ok (.i2l, 1) := by decide +kernel
theorem dX12_next_83 : decode cX12_next 83 = .ok (.ldc2_w 186, 3) := by decide +kernel
theorem dX12_next_86 : decode cX12_next 86 = .ok (.ldc2_w 188, 3) := by decide +kernel
theorem dX12_next_89 : decode cX12_next 89 = .ok (.invokestatic 138, 3) := by decide +kernel
theorem dX12_next_92 : decode cX12_next 92 = .ok (.ifCond .eq 93, 3) := by decide +kernel
theorem dX12_next_95 : decode cX12_next 95 = .ok (.aload_n 0, 1) := by decide +kernel
theorem dX12_next_96 : decode cX12_next 96 = .ok (.iconst 1, 1) := by decide +kernel
theorem dX12_next_97 : decode cX12_next 97 = .ok (.putfield 183, 3) := by decide +kernel
theorem dX12_next_100 : decode cX12_next 100 = .ok (.aload_n 0, 1) := by decide +kernel
theorem dX12_next_101 : decode cX12_next 101 = .ok (.lconst 0, 1) := by decide +kernel
theorem dX12_next_102 : decode cX12_next 102 = .ok (.putfield 190, 3) := by decide +kernel
theorem dX12_next_105 : decode cX12_next 105 = .ok (.iconst 0, 1) := by decide +kernel
theorem dX12_next_106 : decode cX12_next 106 = .ok (.istore_n 2, 1) := by decide +kernel
theorem dX12_next_107 : decode cX12_next 107 = .ok (.aload_n 0, 1) := by decide +kernel
theorem dX12_next_108 : decode cX12_next 108 = .ok (.aload_n 0, 1) := by decide +kernel
theorem dX12_next_109 : decode cX12_next 109 = .ok (.getfield 173, 3) := by decide +kernel
theorem dX12_next_112 : decode cX12_next 112 = .ok (.invokevirtual 176, 3) := by decide +kernel
theorem dX12_next_115 : decode cX12_next 115 = .ok (.i2l, 1) := by decide +kernel
theorem dX12_next_116 : decode cX12_next 116 = .ok (.ldc2_w 186, 3) := by decide +kernel
theorem dX12_next_119 : decode cX12_next 119 = .ok (.ldc2_w 188, 3) := by decide +kernel
theorem dX12_next_122 : decode cX12_next 122 = .ok (.invokestatic 138, 3) := by decide +kernel
theorem dX12_next_125 : decode cX12_next 125 = .ok (.ifCond .eq 57, 3) := by decide +kernel
theorem dX12_next_128 : decode cX12_next 128 = .ok (.aload_n 0, 1) := by decide +kernel
theorem dX12_next_129 : decode cX12_next 129 = .ok (.iload_n 2, 1) := by decide +kernel
theorem dX12_next_130 : decode cX12_next 130 = .ok (.bipush 8, 2) := by decide +kernel
theorem dX12_next_132 : decode cX12_next 132 = .ok (.if_icmp .ge 28, 3) := by decide +kernel
theorem dX12_next_135 : decode cX12_next 135 = .ok (.ldc2_w 194, 3) := by decide +kernel
theorem dX12_next_138 : decode cX12_next 138 = .ok (.aload_n 0, 1) := by decide +kernel
theorem dX12_next_139 : decode cX12_next 139 = .ok (.getfield 190, 3) := by decide +kernel
theorem dX12_next_142 : decode cX12_next 142 = .ok (.lmul, 1) := by decide +kernel
theorem dX12_next_143 : decode cX12_next 143 = .ok (.aload_n 0, 1) := by decide +kernel
theorem dX12_next_144 : decode cX12_next 144 = .ok (.aload_n 0, 1) := by decide +kernel
theorem dX12_next_145 : decode cX12_next 145 = .ok (.getfield 173, 3) := by decide +kernel
theorem dX12_next_148 : decode cX12_next 148 = .ok (.invokevirtual 176, 3) := by decide +kernel
theorem dX12_next_151 : decode cX12_next 151 = .ok (.i2l, 1) := by decide +kernel
theorem dX12_next_152 : decode cX12_next 152 = .ok (.ladd, 1) := by decide +kernel
theorem dX12_next_153 : decode cX12_next 153 = .ok (.ldc2_w 196, 3) := by decide +kernel
theorem dX12_next_156 : decode cX12_next 156 = .ok (.lsub, 1) := by decide +kernel
theorem dX12_next_157 : decode cX12_next 157 = .ok (.goto 6, 3) := by decide +kernel
theorem dX12_next_160 : decode cX12_next 160 = .ok (.ldc2_w 198, 3) := by decide +kernel
theorem dX12_next_163 : decode cX12_next 163 = .ok (.putfield 190, 3) := by decide +kernel
theorem dX12_next_166 : decode cX12_next 166 = .ok (.iinc 2 1, 3) := by decide +kernel
theorem dX12_next_169 : decode cX12_next 169 = .ok (.aload_n 0, 1) := by decide +kernel
theorem dX12_next_170 : decode cX12_next 170 = .ok (.dup, 1) := by decide +kernel
theorem dX12_next_171 : decode cX12_next 171 = .ok (.getfield 173, 3) := by decide +kernel
theorem dX12_next_174 : decode cX12_next 174 = .ok (.iconst 1, 1) := by decide +kernel
theorem dX12_next_175 : decode cX12_next 175 = .ok (.iadd, 1) := by decide +kernel
theorem dX12_next_176 : decode cX12_next 176 = .ok (.putfield 173, 3) := by decide +kernel
theorem dX12_next_179 : decode cX12_next 179 = .ok (.goto (-72), 3) := by decide +kernel
theorem dX12_next_182 : decode cX12_next 182 = .ok (.goto 190, 3) := by decide +kernel
theorem dX12_next_185 : decode cX12_next 185 = .ok (.iload_n 1, 1) := by decide +kernel
theorem dX12_next_186 : decode cX12_next 186 = .ok (.i2l, 1) := by decide +kernel
theorem dX12_next_187 : decode cX12_next 187 = .ok (.ldc2_w 200, 3) := by decide +kernel
theorem dX12_next_190 : decode cX12_next 190 = .ok (.ldc2_w 202, 3) := by decide +kernel
theorem dX12_next_193 : decode cX12_next 193 = .ok (.invokestatic 138, 3) := by decide +kernel
theorem dX12_next_196 : decode cX12_next 196 = .ok (.ifCond .eq 107, 3) := by decide +kernel
theorem dX12_next_199 : decode cX12_next 199 = .ok (.aload_n 0, 1) := by decide +kernel
theorem dX12_next_200 : decode cX12_next 200 = .ok (.iconst 2, 1) := by decide +kernel
theorem dX12_next_201 : decode cX12_next 201 = .ok (.putfield 183, 3) := by decide +kernel
theorem dX12_next_204 : decode cX12_next 204 = .ok (.aload_n 0, 1) := by decide +kernel
theorem dX12_next_205 : decode cX12_next 205 = .ok (.lconst 0, 1) := by decide +kernel
theorem dX12_next_206 : decode cX12_next 206 = .ok (.putfield 190, 3) := by decide +kernel
theorem dX12_next_209 : decode cX12_next 209 = .ok (.iconst 0, 1) := by decide +kernel
theorem dX12_next_210 : decode cX12_next 210 = .ok (.istore_n 2, 1) := by decide +kernel
theorem dX12_next_211 : decode cX12_next 211 = .ok (.aload_n 0, 1) := by decide +kernel
theorem dX12_next_212 : decode cX12_next 212 = .ok (.aload_n 0, 1) := by decide +kernel
theorem dX12_next_213 : decode cX12_next 213 = .ok (.getfield 173, 3) := by decide +kernel
theorem dX12_next_216 : decode cX12_next 216 = .ok (.invokevirtual 176, 3) := by decide +kernel
theorem dX12_next_219 : decode cX12_next 219 = .ok (.i2l, 1) := by decide +kernel
theorem dX12_next_220 : decode cX12_next 220 = .ok (.ldc2_w 200, 3) := by decide +kernel
theorem dX12_next_223 : decode cX12_next 223 = .ok (.ldc2_w 202, 3) := by decide +kernel
theorem dX12_next_226 : decode cX12_next 226 = .ok (.invokestatic 138, 3) := by decide +kernel
theorem dX12_next_229 : decode cX12_next 229 = .ok (.ifCond .eq 57, 3) := by decide +kernel
theorem dX12_next_232 : decode cX12_next 232 = .ok (.aload_n 0, 1) := by decide +kernel
theorem dX12_next_233 : decode cX12_next 233 = .ok (.iload_n 2, 1) := by decide +kernel
theorem dX12_next_234 : decode cX12_next 234 = .ok (.iconst 4, 1) := by decide +kernel
theorem dX12_next_235 : decode cX12_next 235 = .ok (.if_icmp .ge 28, 3) := by decide +kernel
theorem dX12_next_238 : decode cX12_next 238 = .ok (.ldc2_w 204, 3) := by decide +kernel
theorem dX12_next_241 : decode cX12_next 241 = .ok (.aload_n 0, 1) := by decide +kernel
theorem dX12_next_242 : decode cX12_next 242 = .ok (.getfield 190, 3) := by decide +kernel
theorem dX12_next_245 : decode cX12_next 245 = .ok (.lmul, 1) := by decide +kernel
theorem dX12_next_246 : decode cX12_next 246 = .ok (.aload_n 0, 1) := by decide +kernel
theorem dX12_next_247 : decode cX12_next 247 = .ok (.aload_n 0, 1) := by decide +kernel
theorem dX12_next_248 : decode cX12_next 248 = .ok (.getfield 173, 3) := by decide +kernel
theorem dX12_next_251 : decode cX12_next 251 = .ok (.invokevirtual 176, 3) := by decide +kernel
theorem dX12_next_254 : decode cX12_next 254 = .ok (.i2l, 1) := by decide +kernel
theorem dX12_next_255 : decode cX12_next 255 = .ok (.ladd, 1) := by decide +kernel
theorem dX12_next_256 : decode cX12_next 256 = .ok (.ldc2_w 200, 3) := by decide +kernel
theorem dX12_next_259 : decode cX12_next 259 = .ok (.lsub, 1) := by decide +kernel
theorem dX12_next_260 : decode cX12_next 260 = .ok (.goto 7, 3) := by decide +kernel
theorem dX12_next_263 : decode cX12_next 263 = .ok (.aload_n 0, 1) := by decide +kernel
theorem dX12_next_264 : decode cX12_next 264 = .ok (.getfield 190, 3) := by decide +kernel
theorem dX12_next_267 : decode cX12_next 267 = .ok (.putfield 190, 3) := by decide +kernel
theorem dX12_next_270 : decode cX12_next 270 = .ok (.iinc 2 1, 3) := by decide +kernel
theorem dX12_next_273 : decode cX12_next 273 = .ok (.aload_n 0, 1) := by decide +kernel
theorem dX12_next_274 : decode cX12_next 274 = .ok (.dup, 1) := by decide +kernel
theorem dX12_next_275 : decode cX12_next 275 = .ok (.getfield 173, 3) := by decide +kernel
theorem dX12_next_278 : decode cX12_next 278 = .ok (.iconst 1, 1) := by decide +kernel
theorem dX12_next_279 : decode cX12_next 279 = .ok (.iadd, 1) := by decide +kernel
theorem dX12_next_280 : decode cX12_next 280 = .ok (.putfield 173, 3) := by decide +kernel
theorem dX12_next_283 : decode cX12_next 283 = .ok (.goto (-72), 3) := by decide +kernel
theorem dX12_next_286 : decode cX12_next 286 = .ok (.aload_n 0, 1) := by decide +kernel
theorem dX12_next_287 : decode cX12_next 287 = .ok (.iload_n 2, 1) := by decide +kernel
theorem dX12_next_288 : decode cX12_next 288 = .ok (.iconst 4, 1) := by decide +kernel
theorem dX12_next_289 : decode cX12_next 289 = .ok (.if_icmp .le 7, 3) := by decide +kernel
theorem dX12_next_292 : decode cX12_next 292 = .ok (.iconst 4, 1) := by decide +kernel
theorem dX12_next_293 : decode cX12_next 293 = .ok (.goto 4, 3) := by decide +kernel
theorem dX12_next_296 : decode cX12_next 296 = .ok (.iconst 2, 1) := by decide +kernel
theorem dX12_next_297 : decode cX12_next 297 = .ok (.putfield 183, 3) := by decide +kernel
theorem dX12_next_300 : decode cX12_next 300 = .ok (.goto 72, 3) := by decide +kernel
theorem dX12_next_303 : decode cX12_next 303 = .ok (.iload_n 1, 1) := by decide +kernel
theorem dX12_next_304 : decode cX12_next 304 = .ok (.bipush 40, 2) := by decide +kernel
theorem dX12_next_306 : decode cX12_next 306 = .ok (.if_icmp .eq 45, 3) := by decide +kernel
theorem dX12_next_309 : decode cX12_next 309 = .ok (.iload_n 1, 1) := by decide +kernel
theorem dX12_next_310 : decode cX12_next 310 = .ok (.bipush 41, 2) := by decide +kernel
theorem dX12_next_312 : decode cX12_next 312 = .ok (.if_icmp .eq 39, 3) := by decide +kernel
theorem dX12_next_315 : decode cX12_next 315 = .ok (.iload_n 1, 1) := by decide +kernel
theorem dX12_next_316 : decode cX12_next 316 = .ok (.bipush 59, 2) := by decide +kernel
theorem dX12_next_318 : decode cX12_next 318 = .ok (.if_icmp .eq 33, 3) := by decide +kernel
theorem dX12_next_321 : decode cX12_next 321 = .ok (.iload_n 1, 1) := by decide +kernel
theorem dX12_next_322 : decode cX12_next 322 = .ok (.bipush 43, 2) := by decide +kernel
theorem dX12_next_324 : decode cX12_next 324 = .ok (.if_icmp .eq 27, 3) := by decide +kernel
theorem dX12_next_327 : decode cX12_next 327 = .ok (.iload_n 1, 1) := by decide +kernel
theorem dX12_next_328 : decode cX12_next 328 = .ok (.bipush 45, 2) := by decide +kernel
theorem dX12_next_330 : decode cX12_next 330 = .ok (.if_icmp .eq 21, 3) := by decide +kernel
theorem dX12_next_333 : decode cX12_next 333 = .ok (.iload_n 1, 1) := by decide +kernel
theorem dX12_next_334 : decode cX12_next 334 = .ok (.bipush 42, 2) := by decide +kernel
theorem dX12_next_336 : decode cX12_next 336 = .ok (.if_icmp .eq 15, 3) := by decide +kernel
theorem dX12_next_339 : decode cX12_next 339 = .ok (.iload_n 1, 1) := by decide +kernel
theorem dX12_next_340 : decode cX12_next 340 = .ok (.bipush 60, 2) := by decide +kernel
theorem dX12_next_342 : decode cX12_next 342 = .ok (.if_icmp .eq 9, 3) := by decide +kernel
theorem dX12_next_345 : decode cX12_next 345 = .ok (.iload_n 1, 1) := by decide +kernel
theorem dX12_next_346 : decode cX12_next 346 = .ok (.bipush 61, 2) := by decide +kernel
theorem dX12_next_348 : decode cX12_next 348 = .ok (.if_icmp .ne 24, 3) := by decide +kernel
theorem dX12_next_351 : decode cX12_next 351 = .ok (.aload_n 0, 1) := by decide +kernel
theorem dX12_next_352 : decode cX12_next 352 = .ok (.iconst 3, 1) := by decide +kernel
theorem dX12_next_353 : decode cX12_next 353 = .ok (.putfield 183, 3) := by decide +kernel
theorem dX12_next_356 : decode cX12_next 356 = .ok (.aload_n 0, 1) := by decide +kernel
theorem dX12_next_357 : decode cX12_next 357 = .ok (.iload_n 1, 1) := by decide +kernel
theorem dX12_next_358 : decode cX12_next 358 = .ok (.i2l, 1) := by decide +kernel
theorem dX12_next_359 : decode cX12_next 359 = .ok (.putfield 190, 3) := by decide +kernel
theorem dX12_next_362 : decode cX12_next 362 = .ok (.aload_n 0, 1) := by decide +kernel
theorem dX12_next_363 : decode cX12_next 363 = .ok (.dup, 1) := by decide +kernel
theorem dX12_next_364 : decode cX12_next 364 = .ok (.getfield 173, 3) := by decide +kernel
theorem dX12_next_367 : decode cX12_next 367 = .ok (.iconst 1, 1) := by decide +kernel
theorem dX12_next_368 : decode cX12_next 368 = .ok (.iadd, 1) := by decide +kernel
theorem dX12_next_369 : decode cX12_next 369 = .ok (.putfield 173, 3) := by decide +kernel
theorem dX12_next_372 : decode cX12_next 372 = .ok (.return_, 1) := by decide +kernel
theorem dX12_fail_0 : decode cX12_fail 0 = .ok (.aload_n 0, 1) := by decide +kernel
theorem dX12_fail_1 : decode cX12_fail 1 = .ok (.getfield 206, 3) := by decide +kernel
theorem dX12_fail_4 : decode cX12_fail 4 = .ok (.ifCond .ne 16, 3) := by decide +kernel
theorem dX12_fail_7 : decode cX12_fail 7 = .ok (.aload_n 0, 1) := by decide +kernel
theorem dX12_fail_8 : decode cX12_fail 8 = .ok (.iconst 1, 1) := by decide +kernel
theorem dX12_fail_9 : decode cX12_fail 9 = .ok (.putfield 206, 3) := by decide +kernel
theorem dX12_fail_12 : decode cX12_fail 12 = .ok (.aload_n 0, 1) := by decide +kernel
theorem dX12_fail_13 : decode cX12_fail 13 = .ok (.aload_n 0, 1) := by decide +kernel
theorem dX12_fail_14 : decode cX12_fail 14 = .ok (.getfield 180, 3) := by decide +kernel
theorem dX12_fail_17 : decode cX12_fail 17 = .ok (.putfield 210, 3) := by decide +kernel
theorem dX12_fail_20 : decode cX12_fail 20 = .ok (.return_, 1) := by decide +kernel
theorem dX12_isWord_0 : decode cX12_isWord 0 = .ok (.aload_n 0, 1) := by decide +kernel
theorem dX12_isWord_1 : decode cX12_isWord 1 = .ok (.getfield 206, 3) := by decide +kernel
theorem dX12_isWord_4 : decode cX12_isWord 4 = .ok (.ifCond .ne 24, 3) := by decide +kernel
theorem dX12_isWord_7 : decode cX12_isWord 7 = .ok (.aload_n 0, 1) := by decide +kernel
theorem dX12_isWord_8 : decode cX12_isWord 8 = .ok (.getfield 183, 3) := by decide +kernel
theorem dX12_isWord_11 : decode cX12_isWord 11 = .ok (.iconst 1, 1) := by decide +kernel
theorem dX12_isWord_12 : decode cX12_isWord 12 = .ok (.if_icmp .ne 16, 3) := by decide +kernel
theorem dX12_isWord_15 : decode cX12_isWord 15 = .ok (.aload_n 0, 1) := by decide +kernel
theorem dX12_isWord_16 : decode cX12_isWord 16 = .ok (.getfield 190, 3) := by decide +kernel
theorem dX12_isWord_19 : decode cX12_isWord 19 = .ok (.lload_n 1, 1) := by decide +kernel
theorem dX12_isWord_20 : decode cX12_isWord 20 = .ok (.lcmp, 1) := by decide +kernel
theorem dX12_isWord_21 : decode cX12_isWord 21 = .ok (.ifCond .ne 7, 3) := by decide +kernel
theorem dX12_isWord_24 : decode cX12_isWord 24 = .ok (.iconst 1, 1) := by decide +kernel
theorem dX12_isWord_25 : decode cX12_isWord 25 = .ok (.goto 4, 3) := by decide +kernel
theorem dX12_isWord_28 : decode cX12_isWord 28 = .ok (.iconst 0, 1) := by decide +kernel
theorem dX12_isWord_29 : decode cX12_isWord 29 = .ok (.ireturn, 1) := by decide +kernel
theorem dX12_isSign_0 : decode cX12_isSign 0 = .ok (.aload_n 0, 1) := by decide +kernel
theorem dX12_isSign_1 : decode cX12_isSign 1 = .ok (.getfield 206, 3) := by decide +kernel
theorem dX12_isSign_4 : decode cX12_isSign 4 = .ok (.ifCond .ne 25, 3) := by decide +kernel
theorem dX12_isSign_7 : decode cX12_isSign 7 = .ok (.aload_n 0, 1) := by decide +kernel
theorem dX12_isSign_8 : decode cX12_isSign 8 = .ok (.getfield 183, 3) := by decide +kernel
theorem dX12_isSign_11 : decode cX12_isSign 11 = .ok (.iconst 3, 1) := by decide +kernel
theorem dX12_isSign_12 : decode cX12_isSign 12 = .ok (.if_icmp .ne 17, 3) := by decide +kernel
theorem dX12_isSign_15 : decode cX12_isSign 15 = .ok (.aload_n 0, 1) := by decide +kernel
theorem dX12_isSign_16 : decode cX12_isSign 16 = .ok (.getfield 190, 3) := by decide +kernel
theorem dX12_isSign_19 : decode cX12_isSign 19 = .ok (.iload_n 1, 1) := by decide +kernel
theorem dX12_isSign_20 : decode cX12_isSign 20 = .ok (.i2l, 1) := by decide +kernel
theorem dX12_isSign_21 : decode cX12_isSign 21 = .ok (.lcmp, 1) := by decide +kernel
theorem dX12_isSign_22 : decode cX12_isSign 22 = .ok (.ifCond .ne 7, 3) := by decide +kernel
theorem dX12_isSign_25 : decode cX12_isSign 25 = .ok (.iconst 1, 1) := by decide +kernel
theorem dX12_isSign_26 : decode cX12_isSign 26 = .ok (.goto 4, 3) := by decide +kernel
theorem dX12_isSign_29 : decode cX12_isSign 29 = .ok (.iconst 0, 1) := by decide +kernel
theorem dX12_isSign_30 : decode cX12_isSign 30 = .ok (.ireturn, 1) := by decide +kernel
theorem dX12_opens_0 : decode cX12_opens 0 = .ok (.aload_n 0, 1) := by decide +kernel
theorem dX12_opens_1 : decode cX12_opens 1 = .ok (.getfield 213, 3) := by decide +kernel
theorem dX12_opens_4 : decode cX12_opens 4 = .ok (.iconst 5, 1) := by decide +kernel
theorem dX12_opens_5 : decode cX12_opens 5 = .ok (.if_icmp .ne 9, 3) := by decide +kernel
theorem dX12_opens_8 : decode cX12_opens 8 = .ok (.aload_n 0, 1) := by decide +kernel
theorem dX12_opens_9 : decode cX12_opens 9 = .ok (.invokevirtual 216, 3) := by decide +kernel
theorem dX12_opens_12 : decode cX12_opens 12 = .ok (.iconst 0, 1) := by decide +kernel
theorem dX12_opens_13 : decode cX12_opens 13 = .ok (.ireturn, 1) := by decide +kernel
theorem dX12_opens_14 : decode cX12_opens 14 = .ok (.aload_n 0, 1) := by decide +kernel
theorem dX12_opens_15 : decode cX12_opens 15 = .ok (.dup, 1) := by decide +kernel
theorem dX12_opens_16 : decode cX12_opens 16 = .ok (.getfield 213, 3) := by decide +kernel
theorem dX12_opens_19 : decode cX12_opens 19 = .ok (.iconst 1, 1) := by decide +kernel
theorem dX12_opens_20 : decode cX12_opens 20 = .ok (.iadd, 1) := by decide +kernel
theorem dX12_opens_21 : decode cX12_opens 21 = .ok (.putfield 213, 3) := by decide +kernel
theorem dX12_opens_24 : decode cX12_opens 24 = .ok (.aload_n 0, 1) := by decide +kernel
theorem dX12_opens_25 : decode cX12_opens 25 = .ok (.invokevirtual 219, 3) := by decide +kernel
theorem dX12_opens_28 : decode cX12_opens 28 = .ok (.iconst 1, 1) := by decide +kernel
theorem dX12_opens_29 : decode cX12_opens 29 = .ok (.ireturn, 1) := by decide +kernel
theorem dX12_name_0 : decode cX12_name 0 = .ok (.aload_n 0, 1) := by decide +kernel
theorem dX12_name_1 : decode cX12_name 1 = .ok (.ldc2_w 222, 3) := by decide +kernel
theorem dX12_name_4 : decode cX12_name 4 = .ok (.invokevirtual 224, 3) := by decide +kernel
theorem dX12_name_7 : decode cX12_name 7 = .ok (.ifCond .eq 8, 3) := by decide +kernel
theorem dX12_name_10 : decode cX12_name 10 = .ok (.aload_n 0, 1) := by decide +kernel
theorem dX12_name_11 : decode cX12_name 11 = .ok (.getfield 228, 3) := by decide +kernel
theorem dX12_name_14 : decode cX12_name 14 = .ok (.ireturn, 1) := by decide +kernel
theorem dX12_name_15 : decode cX12_name 15 = .ok (.aload_n 0, 1) := by decide +kernel
theorem dX12_name_16 : decode cX12_name 16 = .ok (.ldc2_w 231, 3) := by decide +kernel
theorem dX12_name_19 : decode cX12_name 19 = .ok (.invokevirtual 224, 3) := by decide +kernel
theorem dX12_name_22 : decode cX12_name 22 = .ok (.ifCond .eq 20, 3) := by decide +kernel
theorem dX12_name_25 : decode cX12_name 25 = .ok (.aload_n 0, 1) := by decide +kernel
theorem dX12_name_26 : decode cX12_name 26 = .ok (.getfield 32, 3) := by decide +kernel
theorem dX12_name_29 : decode cX12_name 29 = .ok (.iconst 4, 1) := by decide +kernel
theorem dX12_name_30 : decode cX12_name 30 = .ok (.aload_n 0, 1) := by decide +kernel
theorem dX12_name_31 : decode cX12_name 31 = .ok (.getfield 233, 3) := by decide +kernel
theorem dX12_name_34 : decode cX12_name 34 = .ok (.imul, 1) := by decide +kernel
theorem dX12_name_35 : decode cX12_name 35 = .ok (.aload_n 0, 1) := by decide +kernel
theorem dX12_name_36 : decode cX12_name 36 = .ok (.getfield 228, 3) := by decide +kernel
theorem dX12_name_39 : decode cX12_name 39 = .ok (.iadd, 1) := by decide +kernel
theorem dX12_name_40 : decode cX12_name 40 = .ok (.iaload, 1) := by decide +kernel
theorem dX12_name_41 : decode cX12_name 41 = .ok (.ireturn, 1) := by decide +kernel
theorem dX12_name_42 : decode cX12_name 42 = .ok (.aload_n 0, 1) := by decide +kernel
theorem dX12_name_43 : decode cX12_name 43 = .ok (.ldc2_w 236, 3) := by decide +kernel
theorem dX12_name_46 : decode cX12_name 46 = .ok (.invokevirtual 224, 3) := by decide +kernel
theorem dX12_name_49 : decode cX12_name 49 = .ok (.ifCond .eq 13, 3) := by decide +kernel
theorem dX12_name_52 : decode cX12_name 52 = .ok (.aload_n 0, 1) := by decide +kernel
theorem dX12_name_53 : decode cX12_name 53 = .ok (.getfield 29, 3) := by decide +kernel
theorem dX12_name_56 : decode cX12_name 56 = .ok (.aload_n 0, 1) := by decide +kernel
theorem dX12_name_57 : decode cX12_name 57 = .ok (.getfield 233, 3) := by decide +kernel
theorem dX12_name_60 : decode cX12_name 60 = .ok (.iaload, 1) := by decide +kernel
theorem dX12_name_61 : decode cX12_name 61 = .ok (.ireturn, 1) := by decide +kernel
theorem dX12_name_62 : decode cX12_name 62 = .ok (.aload_n 0, 1) := by decide +kernel
theorem dX12_name_63 : decode cX12_name 63 = .ok (.ldc2_w 238, 3) := by decide +kernel
theorem dX12_name_66 : decode cX12_name 66 = .ok (.invokevirtual 224, 3) := by decide +kernel
theorem dX12_name_69 : decode cX12_name 69 = .ok (.ifCond .eq 13, 3) := by decide +kernel
theorem dX12_name_72 : decode cX12_name 72 = .ok (.aload_n 0, 1) := by decide +kernel
theorem dX12_name_73 : decode cX12_name 73 = .ok (.getfield 23, 3) := by decide +kernel
theorem dX12_name_76 : decode cX12_name 76 = .ok (.aload_n 0, 1) := by decide +kernel
theorem dX12_name_77 : decode cX12_name 77 = .ok (.getfield 233, 3) := by decide +kernel
theorem dX12_name_80 : decode cX12_name 80 = .ok (.iaload, 1) := by decide +kernel
theorem dX12_name_81 : decode cX12_name 81 = .ok (.ireturn, 1) := by decide +kernel
theorem dX12_name_82 : decode cX12_name 82 = .ok (.aload_n 0, 1) := by decide +kernel
theorem dX12_name_83 : decode cX12_name 83 = .ok (.ldc2_w 240, 3) := by decide +kernel
theorem dX12_name_86 : decode cX12_name 86 = .ok (.invokevirtual 224, 3) := by decide +kernel
theorem dX12_name_89 : decode cX12_name 89 = .ok (.ifCond .eq 8, 3) := by decide +kernel
theorem dX12_name_92 : decode cX12_name 92 = .ok (.aload_n 0, 1) := by decide +kernel
theorem dX12_name_93 : decode cX12_name 93 = .ok (.getfield 242, 3) := by decide +kernel
theorem dX12_name_96 : decode cX12_name 96 = .ok (.ireturn, 1) := by decide +kernel
theorem dX12_name_97 : decode cX12_name 97 = .ok (.aload_n 0, 1) := by decide +kernel
theorem dX12_name_98 : decode cX12_name 98 = .ok (.ldc2_w 245, 3) := by decide +kernel
theorem dX12_name_101 : decode cX12_name 101 = .ok (.invokevirtual 224, 3) := by decide +kernel
theorem dX12_name_104 : decode cX12_name 104 = .ok (.ifCond .eq 8, 3) := by decide +kernel
theorem dX12_name_107 : decode cX12_name 107 = .ok (.aload_n 0, 1) := by decide +kernel
theorem dX12_name_108 : decode cX12_name 108 = .ok (.getfield 247, 3) := by decide +kernel
theorem dX12_name_111 : decode cX12_name 111 = .ok (.ireturn, 1) := by decide +kernel
theorem dX12_name_112 : decode cX12_name 112 = .ok (.aload_n 0, 1) := by decide +kernel
theorem dX12_name_113 : decode cX12_name 113 = .ok (.invokevirtual 216, 3) := by decide +kernel
theorem dX12_name_116 : decode cX12_name 116 = .ok (.iconst 0, 1) := by decide +kernel
theorem dX12_name_117 : decode cX12_name 117 = .ok (.ireturn, 1) := by decide +kernel
theorem dX12_one_0 : decode cX12_one 0 = .ok (.iconst 0, 1) := by decide +kernel
theorem dX12_one_1 : decode cX12_one 1 = .ok (.istore_n 1, 1) := by decide +kernel
theorem dX12_one_2 : decode cX12_one 2 = .ok (.aload_n 0, 1) := by decide +kernel
theorem dX12_one_3 : decode cX12_one 3 = .ok (.bipush 45, 2) := by decide +kernel
theorem dX12_one_5 : decode cX12_one 5 = .ok (.invokevirtual 250, 3) := by decide +kernel
theorem dX12_one_8 : decode cX12_one 8 = .ok (.ifCond .eq 29, 3) := by decide +kernel
theorem dX12_one_11 : decode cX12_one 11 = .ok (.aload_n 0, 1) := by decide +kernel
theorem dX12_one_12 : decode cX12_one 12 = .ok (.invokevirtual 253, 3) := by decide +kernel
theorem dX12_one_15 : decode cX12_one 15 = .ok (.ifCond .eq 146, 3) := by decide +kernel
theorem dX12_one_18 : decode cX12_one 18 = .ok (.aload_n 0, 1) := by decide +kernel
theorem dX12_one_19 : decode cX12_one 19 = .ok (.invokevirtual 257, 3) := by decide +kernel
theorem dX12_one_22 : decode cX12_one 22 = .ok (.ineg, 1) := by decide +kernel
theorem dX12_one_23 : decode cX12_one 23 = .ok (.istore_n 1, 1) := by decide +kernel
theorem dX12_one_24 : decode cX12_one 24 = .ok (.aload_n 0, 1) := by decide +kernel
theorem dX12_one_25 : decode cX12_one 25 = .ok (.dup, 1) := by decide +kernel
theorem dX12_one_26 : decode cX12_one 26 = .ok (.getfield 213, 3) := by decide +kernel
theorem dX12_one_29 : decode cX12_one 29 = .ok (.iconst 1, 1) := by decide +kernel
theorem dX12_one_30 : decode cX12_one 30 = .ok (.isub, 1) := by decide +kernel
theorem dX12_one_31 : decode cX12_one 31 = .ok (.putfield 213, 3) := by decide +kernel
theorem dX12_one_34 : decode cX12_one 34 = .ok (.goto 127, 3) := by decide +kernel
theorem dX12_one_37 : decode cX12_one 37 = .ok (.aload_n 0, 1) := by decide +kernel
theorem dX12_one_38 : decode cX12_one 38 = .ok (.bipush 40, 2) := by decide +kernel
theorem dX12_one_40 : decode cX12_one 40 = .ok (.invokevirtual 250, 3) := by decide +kernel
theorem dX12_one_43 : decode cX12_one 43 = .ok (.ifCond .eq 52, 3) := by decide +kernel
theorem dX12_one_46 : decode cX12_one 46 = .ok (.aload_n 0, 1) := by decide +kernel
theorem dX12_one_47 : decode cX12_one 47 = .ok (.invokevirtual 253, 3) := by decide +kernel
theorem dX12_one_50 : decode cX12_one 50 = .ok (.ifCond .eq 111, 3) := by decide +kernel
theorem dX12_one_53 : decode cX12_one 53 = .ok (.aload_n 0, 1) := by decide +kernel
theorem dX12_one_54 : decode cX12_one 54 = .ok (.invokevirtual 261, 3) := by decide +kernel
theorem dX12_one_57 : decode cX12_one 57 = .ok (.istore_n 1, 1) := by decide +kernel
theorem dX12_one_58 : decode cX12_one 58 = .ok (.aload_n 0, 1) := by decide +kernel
theorem dX12_one_59 : decode cX12_one 59 = .ok (.bipush 41, 2) := by decide +kernel
theorem dX12_one_61 : decode cX12_one 61 = .ok (.invokevirtual 250, 3) := by decide +kernel
theorem dX12_one_64 : decode cX12_one 64 = .ok (.ifCond .ne 7, 3) := by decide +kernel
theorem dX12_one_67 : decode cX12_one 67 = .ok (.aload_n 0, 1) := by decide +kernel
theorem dX12_one_68 : decode cX12_one 68 = .ok (.invokevirtual 216, 3) := by decide +kernel
theorem dX12_one_71 : decode cX12_one 71 = .ok (.aload_n 0, 1) := by decide +kernel
theorem dX12_one_72 : decode cX12_one 72 = .ok (.dup, 1) := by decide +kernel
theorem dX12_one_73 : decode cX12_one 73 = .ok (.getfield 213, 3) := by decide +kernel
theorem dX12_one_76 : decode cX12_one 76 = .ok (.iconst 1, 1) := by decide +kernel
theorem dX12_one_77 : decode cX12_one 77 = .ok (.isub, 1) := by decide +kernel
theorem dX12_one_78 : decode cX12_one 78 = .ok (.putfield 213, 3) := by decide +kernel
theorem dX12_one_81 : decode cX12_one 81 = .ok (.aload_n 0, 1) := by decide +kernel
theorem dX12_one_82 : decode cX12_one 82 = .ok (.getfield 206, 3) := by decide +kernel
theorem dX12_one_85 : decode cX12_one 85 = .ok (.ifCond .ne 76, 3) := by decide +kernel
theorem dX12_one_88 : decode cX12_one 88 = .ok (.aload_n 0, 1) := by decide +kernel
theorem dX12_one_89 : decode cX12_one 89 = .ok (.invokevirtual 219, 3) := by decide +kernel
theorem dX12_one_92 : decode cX12_one 92 = .ok (.goto 69, 3) := by decide +kernel
theorem dX12_one_95 : decode cX12_one 95 = .ok (.aload_n 0, 1) := by decide +kernel
theorem dX12_one_96 : decode cX12_one 96 = .ok (.getfield 206, 3) := by decide +kernel
theorem dX12_one_99 : decode cX12_one 99 = .ok (.ifCond .ne 24, 3) := by decide +kernel
theorem dX12_one_102 : decode cX12_one 102 = .ok (.aload_n 0, 1) := by decide +kernel
theorem dX12_one_103 : decode cX12_one 103 = .ok (.getfield 183, 3) := by decide +kernel
theorem dX12_one_106 : decode cX12_one 106 = .ok (.iconst 2, 1) := by decide +kernel
theorem dX12_one_107 : decode cX12_one 107 = .ok (.if_icmp .ne 16, 3) := by decide +kernel
theorem dX12_one_110 : decode cX12_one 110 = .ok (.aload_n 0, 1) := by decide +kernel
theorem dX12_one_111 : decode cX12_one 111 = .ok (.getfield 190, 3) := by decide +kernel
theorem dX12_one_114 : decode cX12_one 114 = .ok (.l2i, 1) := by decide +kernel
theorem dX12_one_115 : decode cX12_one 115 = .ok (.istore_n 1, 1) := by decide +kernel
theorem dX12_one_116 : decode cX12_one 116 = .ok (.aload_n 0, 1) := by decide +kernel
theorem dX12_one_117 : decode cX12_one 117 = .ok (.invokevirtual 219, 3) := by decide +kernel
theorem dX12_one_120 : decode cX12_one 120 = .ok (.goto 41, 3) := by decide +kernel
theorem dX12_one_123 : decode cX12_one 123 = .ok (.aload_n 0, 1) := by decide +kernel
theorem dX12_one_124 : decode cX12_one 124 = .ok (.getfield 206, 3) := by decide +kernel
theorem dX12_one_127 : decode cX12_one 127 = .ok (.ifCond .ne 30, 3) := by decide +kernel
theorem dX12_one_130 : decode cX12_one 130 = .ok (.aload_n 0, 1) := by decide +kernel
theorem dX12_one_131 : decode cX12_one 131 = .ok (.getfield 183, 3) := by decide +kernel
theorem dX12_one_134 : decode cX12_one 134 = .ok (.iconst 1, 1) := by decide +kernel
theorem dX12_one_135 : decode cX12_one 135 = .ok (.if_icmp .ne 22, 3) := by decide +kernel
theorem dX12_one_138 : decode cX12_one 138 = .ok (.aload_n 0, 1) := by decide +kernel
theorem dX12_one_139 : decode cX12_one 139 = .ok (.invokevirtual 264, 3) := by decide +kernel
theorem dX12_one_142 : decode cX12_one 142 = .ok (.istore_n 1, 1) := by decide +kernel
theorem dX12_one_143 : decode cX12_one 143 = .ok (.aload_n 0, 1) := by decide +kernel
theorem dX12_one_144 : decode cX12_one 144 = .ok (.getfield 206, 3) := by decide +kernel
theorem dX12_one_147 : decode cX12_one 147 = .ok (.ifCond .ne 14, 3) := by decide +kernel
theorem dX12_one_150 : decode cX12_one 150 = .ok (.aload_n 0, 1) := by decide +kernel
theorem dX12_one_151 : decode cX12_one 151 = .ok (.invokevirtual 219, 3) := by decide +kernel
theorem dX12_one_154 : decode cX12_one 154 = .ok (.goto 7, 3) := by decide +kernel
theorem dX12_one_157 : decode cX12_one 157 = .ok (.aload_n 0, 1) := by decide +kernel
theorem dX12_one_158 : decode cX12_one 158 = .ok (.invokevirtual 216, 3) := by decide +kernel
theorem dX12_one_161 : decode cX12_one 161 = .ok (.iload_n 1, 1) := by decide +kernel
theorem dX12_one_162 : decode cX12_one 162 = .ok (.ireturn, 1) := by decide +kernel
theorem dX12_term_0 : decode cX12_term 0 = .ok (.aload_n 0, 1) := by decide +kernel
theorem dX12_term_1 : decode cX12_term 1 = .ok (.invokevirtual 257, 3) := by decide +kernel
theorem dX12_term_4 : decode cX12_term 4 = .ok (.istore_n 1, 1) := by decide +kernel
theorem dX12_term_5 : decode cX12_term 5 = .ok (.aload_n 0, 1) := by decide +kernel
theorem dX12_term_6 : decode cX12_term 6 = .ok (.bipush 42, 2) := by decide +kernel
theorem dX12_term_8 : decode cX12_term 8 = .ok (.invokevirtual 250, 3) := by decide +kernel
theorem dX12_term_11 : decode cX12_term 11 = .ok (.ifCond .eq 17, 3) := by decide +kernel
theorem dX12_term_14 : decode cX12_term 14 = .ok (.aload_n 0, 1) := by decide +kernel
theorem dX12_term_15 : decode cX12_term 15 = .ok (.invokevirtual 219, 3) := by decide +kernel
theorem dX12_term_18 : decode cX12_term 18 = .ok (.iload_n 1, 1) := by decide +kernel
theorem dX12_term_19 : decode cX12_term 19 = .ok (.aload_n 0, 1) := by decide +kernel
theorem dX12_term_20 : decode cX12_term 20 = .ok (.invokevirtual 257, 3) := by decide +kernel
theorem dX12_term_23 : decode cX12_term 23 = .ok (.imul, 1) := by decide +kernel
theorem dX12_term_24 : decode cX12_term 24 = .ok (.istore_n 1, 1) := by decide +kernel
theorem dX12_term_25 : decode cX12_term 25 = .ok (.goto (-20), 3) := by decide +kernel
theorem dX12_term_28 : decode cX12_term 28 = .ok (.iload_n 1, 1) := by decide +kernel
theorem dX12_term_29 : decode cX12_term 29 = .ok (.ireturn, 1) := by decide +kernel
theorem dX12_added_0 : decode cX12_added 0 = .ok (.aload_n 0, 1) := by decide +kernel
theorem dX12_added_1 : decode cX12_added 1 = .ok (.invokevirtual 267, 3) := by decide +kernel
theorem dX12_added_4 : decode cX12_added 4 = .ok (.istore_n 1, 1) := by decide +kernel
theorem dX12_added_5 : decode cX12_added 5 = .ok (.aload_n 0, 1) := by decide +kernel
theorem dX12_added_6 : decode cX12_added 6 = .ok (.bipush 43, 2) := by decide +kernel
theorem dX12_added_8 : decode cX12_added 8 = .ok (.invokevirtual 250, 3) := by decide +kernel
theorem dX12_added_11 : decode cX12_added 11 = .ok (.ifCond .ne 12, 3) := by decide +kernel
theorem dX12_added_14 : decode cX12_added 14 = .ok (.aload_n 0, 1) := by decide +kernel
theorem dX12_added_15 : decode cX12_added 15 = .ok (.bipush 45, 2) := by decide +kernel
theorem dX12_added_17 : decode cX12_added 17 = .ok (.invokevirtual 250, 3) := by decide +kernel
theorem dX12_added_20 : decode cX12_added 20 = .ok (.ifCond .eq 46, 3) := by decide +kernel
theorem dX12_added_23 : decode cX12_added 23 = .ok (.aload_n 0, 1) := by decide +kernel
theorem dX12_added_24 : decode cX12_added 24 = .ok (.getfield 190, 3) := by decide +kernel
theorem dX12_added_27 : decode cX12_added 27 = .ok (.ldc2_w 270, 3) := by decide +kernel
theorem dX12_added_30 : decode cX12_added 30 = .ok (.lcmp, 1) := by decide +kernel
theorem dX12_added_31 : decode cX12_added 31 = .ok (.ifCond .ne 7, 3) := by decide +kernel
theorem dX12_added_34 : decode cX12_added 34 = .ok (.iconst 1, 1) := by decide +kernel
theorem dX12_added_35 : decode cX12_added 35 = .ok (.goto 4, 3) := by decide +kernel
theorem dX12_added_38 : decode cX12_added 38 = .ok (.iconst 0, 1) := by decide +kernel
theorem dX12_added_39 : decode cX12_added 39 = .ok (.istore_n 2, 1) := by decide +kernel
theorem dX12_added_40 : decode cX12_added 40 = .ok (.aload_n 0, 1) := by decide +kernel
theorem dX12_added_41 : decode cX12_added 41 = .ok (.invokevirtual 219, 3) := by decide +kernel
theorem dX12_added_44 : decode cX12_added 44 = .ok (.aload_n 0, 1) := by decide +kernel
theorem dX12_added_45 : decode cX12_added 45 = .ok (.invokevirtual 267, 3) := by decide +kernel
theorem dX12_added_48 : decode cX12_added 48 = .ok (.istore_n 3, 1) := by decide +kernel
theorem dX12_added_49 : decode cX12_added 49 = .ok (.iload_n 2, 1) := by decide +kernel
theorem dX12_added_50 : decode cX12_added 50 = .ok (.ifCond .eq 9, 3) := by decide +kernel
theorem dX12_added_53 : decode cX12_added 53 = .ok (.iload_n 1, 1) := by decide +kernel
theorem dX12_added_54 : decode cX12_added 54 = .ok (.iload_n 3, 1) := by decide +kernel
theorem dX12_added_55 : decode cX12_added 55 = .ok (.iadd, 1) := by decide +kernel
theorem dX12_added_56 : decode cX12_added 56 = .ok (.goto 6, 3) := by decide +kernel
theorem dX12_added_59 : decode cX12_added 59 = .ok (.iload_n 1, 1) := by decide +kernel
theorem dX12_added_60 : decode cX12_added 60 = .ok (.iload_n 3, 1) := by decide +kernel
theorem dX12_added_61 : decode cX12_added 61 = .ok (.isub, 1) := by decide +kernel
theorem dX12_added_62 : decode cX12_added 62 = .ok (.istore_n 1, 1) := by decide +kernel
theorem dX12_added_63 : decode cX12_added 63 = .ok (.goto (-58), 3) := by decide +kernel
theorem dX12_added_66 : decode cX12_added 66 = .ok (.iload_n 1, 1) := by decide +kernel
theorem dX12_added_67 : decode cX12_added 67 = .ok (.ireturn, 1) := by decide +kernel
theorem dX12_not_0 : decode cX12_not 0 = .ok (.aload_n 0, 1) := by decide +kernel
theorem dX12_not_1 : decode cX12_not 1 = .ok (.ldc2_w 272, 3) := by decide +kernel
theorem dX12_not_4 : decode cX12_not 4 = .ok (.invokevirtual 224, 3) := by decide +kernel
theorem dX12_not_7 : decode cX12_not 7 = .ok (.ifCond .eq 37, 3) := by decide +kernel
theorem dX12_not_10 : decode cX12_not 10 = .ok (.aload_n 0, 1) := by decide +kernel
theorem dX12_not_11 : decode cX12_not 11 = .ok (.invokevirtual 253, 3) := by decide +kernel
theorem dX12_not_14 : decode cX12_not 14 = .ok (.ifCond .ne 5, 3) := by decide +kernel
theorem dX12_not_17 : decode cX12_not 17 = .ok (.iconst 0, 1) := by decide +kernel
theorem dX12_not_18 : decode cX12_not 18 = .ok (.ireturn, 1) := by decide +kernel
theorem dX12_not_19 : decode cX12_not 19 = .ok (.aload_n 0, 1) := by decide +kernel
theorem dX12_not_20 : decode cX12_not 20 = .ok (.invokevirtual 274, 3) := by decide +kernel
theorem dX12_not_23 : decode cX12_not 23 = .ok (.istore_n 1, 1) := by decide +kernel
theorem dX12_not_24 : decode cX12_not 24 = .ok (.aload_n 0, 1) := by decide +kernel
theorem dX12_not_25 : decode cX12_not 25 = .ok (.dup, 1) := by decide +kernel
theorem dX12_not_26 : decode cX12_not 26 = .ok (.getfield 213, 3) := by decide +kernel
theorem dX12_not_29 : decode cX12_not 29 = .ok (.iconst 1, 1) := by decide +kernel
theorem dX12_not_30 : decode cX12_not 30 = .ok (.isub, 1) := by decide +kernel
theorem dX12_not_31 : decode cX12_not 31 = .ok (.putfield 213, 3) := by decide +kernel
theorem dX12_not_34 : decode cX12_not 34 = .ok (.iload_n 1, 1) := by decide +kernel
theorem dX12_not_35 : decode cX12_not 35 = .ok (.ifCond .ne 7, 3) := by decide +kernel
theorem dX12_not_38 : decode cX12_not 38 = .ok (.iconst 1, 1) := by decide +kernel
theorem dX12_not_39 : decode cX12_not 39 = .ok (.goto 4, 3) := by decide +kernel
theorem dX12_not_42 : decode cX12_not 42 = .ok (.iconst 0, 1) := by decide +kernel
theorem dX12_not_43 : decode cX12_not 43 = .ok (.ireturn, 1) := by decide +kernel
theorem dX12_not_44 : decode cX12_not 44 = .ok (.aload_n 0, 1) := by decide +kernel
theorem dX12_not_45 : decode cX12_not 45 = .ok (.invokevirtual 277, 3) := by decide +kernel
theorem dX12_not_48 : decode cX12_not 48 = .ok (.istore_n 1, 1) := by decide +kernel
theorem dX12_not_49 : decode cX12_not 49 = .ok (.aload_n 0, 1) := by decide +kernel
theorem dX12_not_50 : decode cX12_not 50 = .ok (.bipush 60, 2) := by decide +kernel
theorem dX12_not_52 : decode cX12_not 52 = .ok (.invokevirtual 250, 3) := by decide +kernel
theorem dX12_not_55 : decode cX12_not 55 = .ok (.ifCond .ne 14, 3) := by decide +kernel
theorem dX12_not_58 : decode cX12_not 58 = .ok (.aload_n 0, 1) := by decide +kernel
theorem dX12_not_59 : decode cX12_not 59 = .ok (.bipush 61, 2) := by decide +kernel
theorem dX12_not_61 : decode cX12_not 61 = .ok (.invokevirtual 250, 3) := by decide +kernel
theorem dX12_not_64 : decode cX12_not 64 = .ok (.ifCond .ne 5, 3) := by decide +kernel
theorem dX12_not_67 : decode cX12_not 67 = .ok (.iload_n 1, 1) := by decide +kernel
theorem dX12_not_68 : decode cX12_not 68 = .ok (.ireturn, 1) := by decide +kernel
theorem dX12_not_69 : decode cX12_not 69 = .ok (.aload_n 0, 1) := by decide +kernel
theorem dX12_not_70 : decode cX12_not 70 = .ok (.getfield 190, 3) := by decide +kernel
theorem dX12_not_73 : decode cX12_not 73 = .ok (.ldc2_w 280, 3) := by decide +kernel
theorem dX12_not_76 : decode cX12_not 76 = .ok (.lcmp, 1) := by decide +kernel
theorem dX12_not_77 : decode cX12_not 77 = .ok (.ifCond .ne 7, 3) := by decide +kernel
theorem dX12_not_80 : decode cX12_not 80 = .ok (.iconst 1, 1) := by decide +kernel
theorem dX12_not_81 : decode cX12_not 81 = .ok (.goto 4, 3) := by decide +kernel
theorem dX12_not_84 : decode cX12_not 84 = .ok (.iconst 0, 1) := by decide +kernel
theorem dX12_not_85 : decode cX12_not 85 = .ok (.istore_n 2, 1) := by decide +kernel
theorem dX12_not_86 : decode cX12_not 86 = .ok (.aload_n 0, 1) := by decide +kernel
theorem dX12_not_87 : decode cX12_not 87 = .ok (.invokevirtual 219, 3) := by decide +kernel
theorem dX12_not_90 : decode cX12_not 90 = .ok (.aload_n 0, 1) := by decide +kernel
theorem dX12_not_91 : decode cX12_not 91 = .ok (.invokevirtual 277, 3) := by decide +kernel
theorem dX12_not_94 : decode cX12_not 94 = .ok (.istore_n 3, 1) := by decide +kernel
theorem dX12_not_95 : decode cX12_not 95 = .ok (.iload_n 2, 1) := by decide +kernel
theorem dX12_not_96 : decode cX12_not 96 = .ok (.ifCond .eq 11, 3) := by decide +kernel
theorem dX12_not_99 : decode cX12_not 99 = .ok (.iload_n 1, 1) := by decide +kernel
theorem dX12_not_100 : decode cX12_not 100 = .ok (.iload_n 3, 1) := by decide +kernel
theorem dX12_not_101 : decode cX12_not 101 = .ok (.if_icmp .ge 15, 3) := by decide +kernel
theorem dX12_not_104 : decode cX12_not 104 = .ok (.goto 8, 3) := by decide +kernel
theorem dX12_not_107 : decode cX12_not 107 = .ok (.iload_n 1, 1) := by decide +kernel
theorem dX12_not_108 : decode cX12_not 108 = .ok (.iload_n 3, 1) := by decide +kernel
theorem dX12_not_109 : decode cX12_not 109 = .ok (.if_icmp .ne 7, 3) := by decide +kernel
theorem dX12_not_112 : decode cX12_not 112 = .ok (.iconst 1, 1) := by decide +kernel
theorem dX12_not_113 : decode cX12_not 113 = .ok (.goto 4, 3) := by decide +kernel
theorem dX12_not_116 : decode cX12_not 116 = .ok (.iconst 0, 1) := by decide +kernel
theorem dX12_not_117 : decode cX12_not 117 = .ok (.ireturn, 1) := by decide +kernel
theorem dX12_both_0 : decode cX12_both 0 = .ok (.aload_n 0, 1) := by decide +kernel
theorem dX12_both_1 : decode cX12_both 1 = .ok (.invokevirtual 274, 3) := by decide +kernel
theorem dX12_both_4 : decode cX12_both 4 = .ok (.istore_n 1, 1) := by decide +kernel
theorem dX12_both_5 : decode cX12_both 5 = .ok (.aload_n 0, 1) := by decide +kernel
theorem dX12_both_6 : decode cX12_both 6 = .ok (.ldc2_w 282, 3) := by decide +kernel
theorem dX12_both_9 : decode cX12_both 9 = .ok (.invokevirtual 224, 3) := by decide +kernel
theorem dX12_both_12 : decode cX12_both 12 = .ok (.ifCond .eq 29, 3) := by decide +kernel
theorem dX12_both_15 : decode cX12_both 15 = .ok (.aload_n 0, 1) := by decide +kernel
theorem dX12_both_16 : decode cX12_both 16 = .ok (.invokevirtual 219, 3) := by decide +kernel
theorem dX12_both_19 : decode cX12_both 19 = .ok (.aload_n 0, 1) := by decide +kernel
theorem dX12_both_20 : decode cX12_both 20 = .ok (.invokevirtual 274, 3) := by decide +kernel
theorem dX12_both_23 : decode cX12_both 23 = .ok (.istore_n 2, 1) := by decide +kernel
theorem dX12_both_24 : decode cX12_both 24 = .ok (.iload_n 1, 1) := by decide +kernel
theorem dX12_both_25 : decode cX12_both 25 = .ok (.ifCond .eq 11, 3) := by decide +kernel
theorem dX12_both_28 : decode cX12_both 28 = .ok (.iload_n 2, 1) := by decide +kernel
theorem dX12_both_29 : decode cX12_both 29 = .ok (.ifCond .eq 7, 3) := by decide +kernel
theorem dX12_both_32 : decode cX12_both 32 = .ok (.iconst 1, 1) := by decide +kernel
theorem dX12_both_33 : decode cX12_both 33 = .ok (.goto 4, 3) := by decide +kernel
theorem dX12_both_36 : decode cX12_both 36 = .ok (.iconst 0, 1) := by decide +kernel
theorem dX12_both_37 : decode cX12_both 37 = .ok (.istore_n 1, 1) := by decide +kernel
theorem dX12_both_38 : decode cX12_both 38 = .ok (.goto (-33), 3) := by decide +kernel
theorem dX12_both_41 : decode cX12_both 41 = .ok (.iload_n 1, 1) := by decide +kernel
theorem dX12_both_42 : decode cX12_both 42 = .ok (.ireturn, 1) := by decide +kernel
theorem dX12_either_0 : decode cX12_either 0 = .ok (.aload_n 0, 1) := by decide +kernel
theorem dX12_either_1 : decode cX12_either 1 = .ok (.invokevirtual 284, 3) := by decide +kernel
theorem dX12_either_4 : decode cX12_either 4 = .ok (.istore_n 1, 1) := by decide +kernel
theorem dX12_either_5 : decode cX12_either 5 = .ok (.aload_n 0, 1) := by decide +kernel
theorem dX12_either_6 : decode cX12_either 6 = .ok (.ldc2_w 287, 3) := by decide +kernel
theorem dX12_either_9 : decode cX12_either 9 = .ok (.invokevirtual 224, 3) := by decide +kernel
theorem dX12_either_12 : decode cX12_either 12 = .ok (.ifCond .eq 29, 3) := by decide +kernel
theorem dX12_either_15 : decode cX12_either 15 = .ok (.aload_n 0, 1) := by decide +kernel
theorem dX12_either_16 : decode cX12_either 16 = .ok (.invokevirtual 219, 3) := by decide +kernel
theorem dX12_either_19 : decode cX12_either 19 = .ok (.aload_n 0, 1) := by decide +kernel
theorem dX12_either_20 : decode cX12_either 20 = .ok (.invokevirtual 284, 3) := by decide +kernel
theorem dX12_either_23 : decode cX12_either 23 = .ok (.istore_n 2, 1) := by decide +kernel
theorem dX12_either_24 : decode cX12_either 24 = .ok (.iload_n 1, 1) := by decide +kernel
theorem dX12_either_25 : decode cX12_either 25 = .ok (.ifCond .ne 7, 3) := by decide +kernel
theorem dX12_either_28 : decode cX12_either 28 = .ok (.iload_n 2, 1) := by decide +kernel
theorem dX12_either_29 : decode cX12_either 29 = .ok (.ifCond .eq 7, 3) := by decide +kernel
theorem dX12_either_32 : decode cX12_either 32 = .ok (.iconst 1, 1) := by decide +kernel
theorem dX12_either_33 : decode cX12_either 33 = .ok (.goto 4, 3) := by decide +kernel
theorem dX12_either_36 : decode cX12_either 36 = .ok (.iconst 0, 1) := by decide +kernel
theorem dX12_either_37 : decode cX12_either 37 = .ok (.istore_n 1, 1) := by decide +kernel
theorem dX12_either_38 : decode cX12_either 38 = .ok (.goto (-33), 3) := by decide +kernel
theorem dX12_either_41 : decode cX12_either 41 = .ok (.iload_n 1, 1) := by decide +kernel
theorem dX12_either_42 : decode cX12_either 42 = .ok (.ireturn, 1) := by decide +kernel
theorem dX12_section_0 : decode cX12_section 0 = .ok (.aload_n 0, 1) := by decide +kernel
theorem dX12_section_1 : decode cX12_section 1 = .ok (.lload_n 1, 1) := by decide +kernel
theorem dX12_section_2 : decode cX12_section 2 = .ok (.invokevirtual 224, 3) := by decide +kernel
theorem dX12_section_5 : decode cX12_section 5 = .ok (.ifCond .ne 7, 3) := by decide +kernel
theorem dX12_section_8 : decode cX12_section 8 = .ok (.aload_n 0, 1) := by decide +kernel
theorem dX12_section_9 : decode cX12_section 9 = .ok (.invokevirtual 216, 3) := by decide +kernel
theorem dX12_section_12 : decode cX12_section 12 = .ok (.aload_n 0, 1) := by decide +kernel
theorem dX12_section_13 : decode cX12_section 13 = .ok (.getfield 206, 3) := by decide +kernel
theorem dX12_section_16 : decode cX12_section 16 = .ok (.ifCond .ne 7, 3) := by decide +kernel
theorem dX12_section_19 : decode cX12_section 19 = .ok (.aload_n 0, 1) := by decide +kernel
theorem dX12_section_20 : decode cX12_section 20 = .ok (.invokevirtual 219, 3) := by decide +kernel
theorem dX12_section_23 : decode cX12_section 23 = .ok (.aload_n 0, 1) := by decide +kernel
theorem dX12_section_24 : decode cX12_section 24 = .ok (.getfield 206, 3) := by decide +kernel
theorem dX12_section_27 : decode cX12_section 27 = .ok (.ifCond .eq 7, 3) := by decide +kernel
theorem dX12_section_30 : decode cX12_section 30 = .ok (.iconst 0, 1) := by decide +kernel
theorem dX12_section_31 : decode cX12_section 31 = .ok (.goto 7, 3) := by decide +kernel
theorem dX12_section_34 : decode cX12_section 34 = .ok (.aload_n 0, 1) := by decide +kernel
theorem dX12_section_35 : decode cX12_section 35 = .ok (.invokevirtual 261, 3) := by decide +kernel
theorem dX12_section_38 : decode cX12_section 38 = .ok (.istore_n 3, 1) := by decide +kernel
theorem dX12_section_39 : decode cX12_section 39 = .ok (.aload_n 0, 1) := by decide +kernel
theorem dX12_section_40 : decode cX12_section 40 = .ok (.bipush 59, 2) := by decide +kernel
theorem dX12_section_42 : decode cX12_section 42 = .ok (.invokevirtual 250, 3) := by decide +kernel
theorem dX12_section_45 : decode cX12_section 45 = .ok (.ifCond .ne 7, 3) := by decide +kernel
theorem dX12_section_48 : decode cX12_section 48 = .ok (.aload_n 0, 1) := by decide +kernel
theorem dX12_section_49 : decode cX12_section 49 = .ok (.invokevirtual 216, 3) := by decide +kernel
theorem dX12_section_52 : decode cX12_section 52 = .ok (.aload_n 0, 1) := by decide +kernel
theorem dX12_section_53 : decode cX12_section 53 = .ok (.getfield 206, 3) := by decide +kernel
theorem dX12_section_56 : decode cX12_section 56 = .ok (.ifCond .ne 7, 3) := by decide +kernel
theorem dX12_section_59 : decode cX12_section 59 = .ok (.aload_n 0, 1) := by decide +kernel
theorem dX12_section_60 : decode cX12_section 60 = .ok (.invokevirtual 219, 3) := by decide +kernel
theorem dX12_section_63 : decode cX12_section 63 = .ok (.iload_n 3, 1) := by decide +kernel
theorem dX12_section_64 : decode cX12_section 64 = .ok (.ireturn, 1) := by decide +kernel
theorem dX12_read_0 : decode cX12_read 0 = .ok (.aload_n 0, 1) := by decide +kernel
theorem dX12_read_1 : decode cX12_read 1 = .ok (.iload_n 2, 1) := by decide +kernel
theorem dX12_read_2 : decode cX12_read 2 = .ok (.putfield 233, 3) := by decide +kernel
theorem dX12_read_5 : decode cX12_read 5 = .ok (.aload_n 0, 1) := by decide +kernel
theorem dX12_read_6 : decode cX12_read 6 = .ok (.iload_n 3, 1) := by decide +kernel
theorem dX12_read_7 : decode cX12_read 7 = .ok (.putfield 228, 3) := by decide +kernel
theorem dX12_read_10 : decode cX12_read 10 = .ok (.aload_n 0, 1) := by decide +kernel
theorem dX12_read_11 : decode cX12_read 11 = .ok (.iload 4, 2) := by decide +kernel
theorem dX12_read_13 : decode cX12_read 13 = .ok (.putfield 242, 3) := by decide +kernel
theorem dX12_read_16 : decode cX12_read 16 = .ok (.aload_n 0, 1) := by decide +kernel
theorem dX12_read_17 : decode cX12_read 17 = .ok (.sipush 160, 3) := by decide +kernel
theorem dX12_read_20 : decode cX12_read 20 = .ok (.iload_n 1, 1) := by decide +kernel
theorem dX12_read_21 : decode cX12_read 21 = .ok (.imul, 1) := by decide +kernel
theorem dX12_read_22 : decode cX12_read 22 = .ok (.putfield 170, 3) := by decide +kernel
theorem dX12_read_25 : decode cX12_read 25 = .ok (.aload_n 0, 1) := by decide +kernel
theorem dX12_read_26 : decode cX12_read 26 = .ok (.aload_n 0, 1) := by decide +kernel
theorem dX12_read_27 : decode cX12_read 27 = .ok (.getfield 17, 3) := by decide +kernel
theorem dX12_read_30 : decode cX12_read 30 = .ok (.iload_n 1, 1) := by decide +kernel
theorem dX12_read_31 : decode cX12_read 31 = .ok (.iaload, 1) := by decide +kernel
theorem dX12_read_32 : decode cX12_read 32 = .ok (.putfield 167, 3) := by decide +kernel
theorem dX12_read_35 : decode cX12_read 35 = .ok (.aload_n 0, 1) := by decide +kernel
theorem dX12_read_36 : decode cX12_read 36 = .ok (.iconst 0, 1) := by decide +kernel
theorem dX12_read_37 : decode cX12_read 37 = .ok (.putfield 173, 3) := by decide +kernel
theorem dX12_read_40 : decode cX12_read 40 = .ok (.aload_n 0, 1) := by decide +kernel
theorem dX12_read_41 : decode cX12_read 41 = .ok (.iconst 0, 1) := by decide +kernel
theorem dX12_read_42 : decode cX12_read 42 = .ok (.putfield 213, 3) := by decide +kernel
theorem dX12_read_45 : decode cX12_read 45 = .ok (.aload_n 0, 1) := by decide +kernel
theorem dX12_read_46 : decode cX12_read 46 = .ok (.iconst 0, 1) := by decide +kernel
theorem dX12_read_47 : decode cX12_read 47 = .ok (.putfield 206, 3) := by decide +kernel
theorem dX12_read_50 : decode cX12_read 50 = .ok (.aload_n 0, 1) := by decide +kernel
theorem dX12_read_51 : decode cX12_read 51 = .ok (.invokevirtual 219, 3) := by decide +kernel
theorem dX12_read_54 : decode cX12_read 54 = .ok (.aload_n 0, 1) := by decide +kernel
theorem dX12_read_55 : decode cX12_read 55 = .ok (.ldc2_w 289, 3) := by decide +kernel
theorem dX12_read_58 : decode cX12_read 58 = .ok (.invokevirtual 291, 3) := by decide +kernel
theorem dX12_read_61 : decode cX12_read 61 = .ok (.istore 6, 2) := by decide +kernel
theorem dX12_read_63 : decode cX12_read 63 = .ok (.aload_n 0, 1) := by decide +kernel
theorem dX12_read_64 : decode cX12_read 64 = .ok (.getfield 206, 3) := by decide +kernel
theorem dX12_read_67 : decode cX12_read 67 = .ok (.ifCond .eq 7, 3) := by decide +kernel
theorem dX12_read_70 : decode cX12_read 70 = .ok (.iconst 0, 1) := by decide +kernel
theorem dX12_read_71 : decode cX12_read 71 = .ok (.goto 10, 3) := by decide +kernel
theorem dX12_read_74 : decode cX12_read 74 = .ok (.aload_n 0, 1) := by decide +kernel
theorem dX12_read_75 : decode cX12_read 75 = .ok (.ldc2_w 295, 3) := by decide +kernel
theorem dX12_read_78 : decode cX12_read 78 = .ok (.invokevirtual 291, 3) := by decide +kernel
theorem dX12_read_81 : decode cX12_read 81 = .ok (.istore 7, 2) := by decide +kernel
theorem dX12_read_83 : decode cX12_read 83 = .ok (.aload_n 0, 1) := by decide +kernel
theorem dX12_read_84 : decode cX12_read 84 = .ok (.getfield 206, 3) := by decide +kernel
theorem dX12_read_87 : decode cX12_read 87 = .ok (.ifCond .eq 7, 3) := by decide +kernel
theorem dX12_read_90 : decode cX12_read 90 = .ok (.iconst 0, 1) := by decide +kernel
theorem dX12_read_91 : decode cX12_read 91 = .ok (.goto 10, 3) := by decide +kernel
theorem dX12_read_94 : decode cX12_read 94 = .ok (.aload_n 0, 1) := by decide +kernel
theorem dX12_read_95 : decode cX12_read 95 = .ok (.ldc2_w 297, 3) := by decide +kernel
theorem dX12_read_98 : decode cX12_read 98 = .ok (.invokevirtual 291, 3) := by decide +kernel
theorem dX12_read_101 : decode cX12_read 101 = .ok (.istore 8, 2) := by decide +kernel
theorem dX12_read_103 : decode cX12_read 103 = .ok (.aload_n 0, 1) := by decide +kernel
theorem dX12_read_104 : decode cX12_read 104 = .ok (.getfield 206, 3) := by decide +kernel
theorem dX12_read_107 : decode cX12_read 107 = .ok (.ifCond .ne 14, 3) := by decide +kernel
theorem dX12_read_110 : decode cX12_read 110 = .ok (.aload_n 0, 1) := by decide +kernel
theorem dX12_read_111 : decode cX12_read 111 = .ok (.getfield 183, 3) := by decide +kernel
theorem dX12_read_114 : decode cX12_read 114 = .ok (.ifCond .eq 7, 3) := by decide +kernel
theorem dX12_read_117 : decode cX12_read 117 = .ok (.aload_n 0, 1) := by decide +kernel
theorem dX12_read_118 : decode cX12_read 118 = .ok (.invokevirtual 216, 3) := by decide +kernel
theorem dX12_read_121 : decode cX12_read 121 = .ok (.iload 5, 2) := by decide +kernel
theorem dX12_read_123 : decode cX12_read 123 = .ok (.ifCond .ne 8, 3) := by decide +kernel
theorem dX12_read_126 : decode cX12_read 126 = .ok (.iload 6, 2) := by decide +kernel
theorem dX12_read_128 : decode cX12_read 128 = .ok (.goto 16, 3) := by decide +kernel
theorem dX12_read_131 : decode cX12_read 131 = .ok (.iload 5, 2) := by decide +kernel
theorem dX12_read_133 : decode cX12_read 133 = .ok (.iconst 1, 1) := by decide +kernel
theorem dX12_read_134 : decode cX12_read 134 = .ok (.if_icmp .ne 8, 3) := by decide +kernel
theorem dX12_read_137 : decode cX12_read 137 = .ok (.iload 7, 2) := by decide +kernel
theorem dX12_read_139 : decode cX12_read 139 = .ok (.goto 5, 3) := by decide +kernel
theorem dX12_read_142 : decode cX12_read 142 = .ok (.iload 8, 2) := by decide +kernel
theorem dX12_read_144 : decode cX12_read 144 = .ok (.ireturn, 1) := by decide +kernel
theorem dX12_text_0 : decode cX12_text 0 = .ok (.aload_n 0, 1) := by decide +kernel
theorem dX12_text_1 : decode cX12_text 1 = .ok (.getfield 130, 3) := by decide +kernel
theorem dX12_text_4 : decode cX12_text 4 = .ok (.bipush 6, 2) := by decide +kernel
theorem dX12_text_6 : decode cX12_text 6 = .ok (.if_icmp .ne 6, 3) := by decide +kernel
theorem dX12_text_9 : decode cX12_text 9 = .ok (.bipush (-4), 2) := by decide +kernel
theorem dX12_text_11 : decode cX12_text 11 = .ok (.ireturn, 1) := by decide +kernel
theorem dX12_text_12 : decode cX12_text 12 = .ok (.iconst 0, 1) := by decide +kernel
theorem dX12_text_13 : decode cX12_text 13 = .ok (.istore_n 1, 1) := by decide +kernel
theorem dX12_text_14 : decode cX12_text 14 = .ok (.iload_n 1, 1) := by decide +kernel
theorem dX12_text_15 : decode cX12_text 15 = .ok (.aload_n 0, 1) := by decide +kernel
theorem dX12_text_16 : decode cX12_text 16 = .ok (.getfield 164, 3) := by decide +kernel
theorem dX12_text_19 : decode cX12_text 19 = .ok (.if_icmp .ge 30, 3) := by decide +kernel
theorem dX12_text_22 : decode cX12_text 22 = .ok (.aload_n 0, 1) := by decide +kernel
theorem dX12_text_23 : decode cX12_text 23 = .ok (.getfield 13, 3) := by decide +kernel
theorem dX12_text_26 : decode cX12_text 26 = .ok (.sipush 160, 3) := by decide +kernel
theorem dX12_text_29 : decode cX12_text 29 = .ok (.aload_n 0, 1) := by decide +kernel
theorem dX12_text_30 : decode cX12_text 30 = .ok (.getfield 130, 3) := by decide +kernel
theorem dX12_text_33 : decode cX12_text 33 = .ok (.imul, 1) := by decide +kernel
theorem dX12_text_34 : decode cX12_text 34 = .ok (.iload_n 1, 1) := by decide +kernel
theorem dX12_text_35 : decode cX12_text 35 = .ok (.iadd, 1) := by decide +kernel
theorem dX12_text_36 : decode cX12_text 36 = .ok (.aload_n 0, 1) := by decide +kernel
theorem dX12_text_37 : decode cX12_text 37 = .ok (.getfield 20, 3) := by decide +kernel
theorem dX12_text_40 : decode cX12_text 40 = .ok (.iload_n 1, 1) := by decide +kernel
theorem dX12_text_41 : decode cX12_text 41 = .ok (.iaload, 1) := by decide +kernel
theorem dX12_text_42 : decode cX12_text 42 = .ok (.iastore, 1) := by decide +kernel
theorem dX12_text_43 : decode cX12_text 43 = .ok (.iinc 1 1, 3) := by decide +kernel
theorem dX12_text_46 : decode cX12_text 46 = .ok (.goto (-32), 3) := by decide +kernel
theorem dX12_text_49 : decode cX12_text 49 = .ok (.aload_n 0, 1) := by decide +kernel
theorem dX12_text_50 : decode cX12_text 50 = .ok (.getfield 17, 3) := by decide +kernel
theorem dX12_text_53 : decode cX12_text 53 = .ok (.aload_n 0, 1) := by decide +kernel
theorem dX12_text_54 : decode cX12_text 54 = .ok (.getfield 130, 3) := by decide +kernel
theorem dX12_text_57 : decode cX12_text 57 = .ok (.aload_n 0, 1) := by decide +kernel
theorem dX12_text_58 : decode cX12_text 58 = .ok (.getfield 164, 3) := by decide +kernel
theorem dX12_text_61 : decode cX12_text 61 = .ok (.iastore, 1) := by decide +kernel
theorem dX12_text_62 : decode cX12_text 62 = .ok (.aload_n 0, 1) := by decide +kernel
theorem dX12_text_63 : decode cX12_text 63 = .ok (.iconst 0, 1) := by decide +kernel
theorem dX12_text_64 : decode cX12_text 64 = .ok (.putfield 164, 3) := by decide +kernel
theorem dX12_text_67 : decode cX12_text 67 = .ok (.aload_n 0, 1) := by decide +kernel
theorem dX12_text_68 : decode cX12_text 68 = .ok (.aload_n 0, 1) := by decide +kernel
theorem dX12_text_69 : decode cX12_text 69 = .ok (.getfield 130, 3) := by decide +kernel
theorem dX12_text_72 : decode cX12_text 72 = .ok (.iconst 0, 1) := by decide +kernel
theorem dX12_text_73 : decode cX12_text 73 = .ok (.iconst 0, 1) := by decide +kernel
theorem dX12_text_74 : decode cX12_text 74 = .ok (.iconst 0, 1) := by decide +kernel
theorem dX12_text_75 : decode cX12_text 75 = .ok (.iconst 0, 1) := by decide +kernel
theorem dX12_text_76 : decode cX12_text 76 = .ok (.invokevirtual 299, 3) := by decide +kernel
theorem dX12_text_79 : decode cX12_text 79 = .ok (.istore_n 1, 1) := by decide +kernel
theorem dX12_text_80 : decode cX12_text 80 = .ok (.aload_n 0, 1) := by decide +kernel
theorem dX12_text_81 : decode cX12_text 81 = .ok (.getfield 206, 3) := by decide +kernel
theorem dX12_text_84 : decode cX12_text 84 = .ok (.ifCond .eq 11, 3) := by decide +kernel
theorem dX12_text_87 : decode cX12_text 87 = .ok (.bipush (-100), 2) := by decide +kernel
theorem dX12_text_89 : decode cX12_text 89 = .ok (.aload_n 0, 1) := by decide +kernel
theorem dX12_text_90 : decode cX12_text 90 = .ok (.getfield 210, 3) := by decide +kernel
theorem dX12_text_93 : decode cX12_text 93 = .ok (.isub, 1) := by decide +kernel
theorem dX12_text_94 : decode cX12_text 94 = .ok (.ireturn, 1) := by decide +kernel
theorem dX12_text_95 : decode cX12_text 95 = .ok (.aload_n 0, 1) := by decide +kernel
theorem dX12_text_96 : decode cX12_text 96 = .ok (.dup, 1) := by decide +kernel
theorem dX12_text_97 : decode cX12_text 97 = .ok (.getfield 130, 3) := by decide +kernel
theorem dX12_text_100 : decode cX12_text 100 = .ok (.iconst 1, 1) := by decide +kernel
theorem dX12_text_101 : decode cX12_text 101 = .ok (.iadd, 1) := by decide +kernel
theorem dX12_text_102 : decode cX12_text 102 = .ok (.putfield 130, 3) := by decide +kernel
theorem dX12_text_105 : decode cX12_text 105 = .ok (.aload_n 0, 1) := by decide +kernel
theorem dX12_text_106 : decode cX12_text 106 = .ok (.getfield 130, 3) := by decide +kernel
theorem dX12_text_109 : decode cX12_text 109 = .ok (.iconst 1, 1) := by decide +kernel
theorem dX12_text_110 : decode cX12_text 110 = .ok (.isub, 1) := by decide +kernel
theorem dX12_text_111 : decode cX12_text 111 = .ok (.ireturn, 1) := by decide +kernel
theorem dX12_force_0 : decode cX12_force 0 = .ok (.iload_n 1, 1) := by decide +kernel
theorem dX12_force_1 : decode cX12_force 1 = .ok (.i2l, 1) := by decide +kernel
theorem dX12_force_2 : decode cX12_force 2 = .ok (.lconst 0, 1) := by decide +kernel
theorem dX12_force_3 : decode cX12_force 3 = .ok (.aload_n 0, 1) := by decide +kernel
theorem dX12_force_4 : decode cX12_force 4 = .ok (.getfield 130, 3) := by decide +kernel
theorem dX12_force_7 : decode cX12_force 7 = .ok (.iconst 1, 1) := by decide +kernel
theorem dX12_force_8 : decode cX12_force 8 = .ok (.isub, 1) := by decide +kernel
theorem dX12_force_9 : decode cX12_force 9 = .ok (.i2l, 1) := by decide +kernel
theorem dX12_force_10 : decode cX12_force 10 = .ok (.invokestatic 138, 3) := by decide +kernel
theorem dX12_force_13 : decode cX12_force 13 = .ok (.ifCond .ne 6, 3) := by decide +kernel
theorem dX12_force_16 : decode cX12_force 16 = .ok (.bipush (-2), 2) := by decide +kernel
theorem dX12_force_18 : decode cX12_force 18 = .ok (.ireturn, 1) := by decide +kernel
theorem dX12_force_19 : decode cX12_force 19 = .ok (.aload_n 0, 1) := by decide +kernel
theorem dX12_force_20 : decode cX12_force 20 = .ok (.getfield 303, 3) := by decide +kernel
theorem dX12_force_23 : decode cX12_force 23 = .ok (.istore_n 2, 1) := by decide +kernel
theorem dX12_force_24 : decode cX12_force 24 = .ok (.aload_n 0, 1) := by decide +kernel
theorem dX12_force_25 : decode cX12_force 25 = .ok (.iload_n 1, 1) := by decide +kernel
theorem dX12_force_26 : decode cX12_force 26 = .ok (.putfield 303, 3) := by decide +kernel
theorem dX12_force_29 : decode cX12_force 29 = .ok (.iload_n 2, 1) := by decide +kernel
theorem dX12_force_30 : decode cX12_force 30 = .ok (.ireturn, 1) := by decide +kernel
theorem dX12_says_0 : decode cX12_says 0 = .ok (.aload_n 0, 1) := by decide +kernel
theorem dX12_says_1 : decode cX12_says 1 = .ok (.iload_n 1, 1) := by decide +kernel
theorem dX12_says_2 : decode cX12_says 2 = .ok (.invokevirtual 154, 3) := by decide +kernel
theorem dX12_says_5 : decode cX12_says 5 = .ok (.ifCond .eq 52, 3) := by decide +kernel
theorem dX12_says_8 : decode cX12_says 8 = .ok (.iload_n 2, 1) := by decide +kernel
theorem dX12_says_9 : decode cX12_says 9 = .ok (.i2l, 1) := by decide +kernel
theorem dX12_says_10 : decode cX12_says 10 = .ok (.lconst 0, 1) := by decide +kernel
theorem dX12_says_11 : decode cX12_says 11 = .ok (.ldc2_w 146, 3) := by decide +kernel
theorem dX12_says_14 : decode cX12_says 14 = .ok (.invokestatic 138, 3) := by decide +kernel
theorem dX12_says_17 : decode cX12_says 17 = .ok (.ifCond .eq 40, 3) := by decide +kernel
theorem dX12_says_20 : decode cX12_says 20 = .ok (.iload_n 3, 1) := by decide +kernel
theorem dX12_says_21 : decode cX12_says 21 = .ok (.invokestatic 306, 3) := by decide +kernel
theorem dX12_says_24 : decode cX12_says 24 = .ok (.ifCond .eq 33, 3) := by decide +kernel
theorem dX12_says_27 : decode cX12_says 27 = .ok (.iload 4, 2) := by decide +kernel
theorem dX12_says_29 : decode cX12_says 29 = .ok (.i2l, 1) := by decide +kernel
theorem dX12_says_30 : decode cX12_says 30 = .ok (.lconst 0, 1) := by decide +kernel
theorem dX12_says_31 : decode cX12_says 31 = .ok (.ldc2_w 309, 3) := by decide +kernel
theorem dX12_says_34 : decode cX12_says 34 = .ok (.invokestatic 138, 3) := by decide +kernel
theorem dX12_says_37 : decode cX12_says 37 = .ok (.ifCond .eq 20, 3) := by decide +kernel
theorem dX12_says_40 : decode cX12_says 40 = .ok (.aload_n 0, 1) := by decide +kernel
theorem dX12_says_41 : decode cX12_says 41 = .ok (.aload_n 0, 1) := by decide +kernel
theorem dX12_says_42 : decode cX12_says 42 = .ok (.getfield 303, 3) := by decide +kernel
theorem dX12_says_45 : decode cX12_says 45 = .ok (.iload_n 1, 1) := by decide +kernel
theorem dX12_says_46 : decode cX12_says 46 = .ok (.iload_n 2, 1) := by decide +kernel
theorem dX12_says_47 : decode cX12_says 47 = .ok (.iload_n 3, 1) := by decide +kernel
theorem dX12_says_48 : decode cX12_says 48 = .ok (.iload 4, 2) := by decide +kernel
theorem dX12_says_50 : decode cX12_says 50 = .ok (.invokevirtual 299, 3) := by decide +kernel
theorem dX12_says_53 : decode cX12_says 53 = .ok (.i2l, 1) := by decide +kernel
theorem dX12_says_54 : decode cX12_says 54 = .ok (.goto 6, 3) := by decide +kernel
theorem dX12_says_57 : decode cX12_says 57 = .ok (.ldc2_w 311, 3) := by decide +kernel
theorem dX12_says_60 : decode cX12_says 60 = .ok (.lreturn, 1) := by decide +kernel
theorem dX12_width_0 : decode cX12_width 0 = .ok (.iload_n 1, 1) := by decide +kernel
theorem dX12_width_1 : decode cX12_width 1 = .ok (.invokestatic 313, 3) := by decide +kernel
theorem dX12_width_4 : decode cX12_width 4 = .ok (.ifCond .ne 6, 3) := by decide +kernel
theorem dX12_width_7 : decode cX12_width 7 = .ok (.bipush (-2), 2) := by decide +kernel
theorem dX12_width_9 : decode cX12_width 9 = .ok (.ireturn, 1) := by decide +kernel
theorem dX12_width_10 : decode cX12_width 10 = .ok (.aload_n 0, 1) := by decide +kernel
theorem dX12_width_11 : decode cX12_width 11 = .ok (.getfield 247, 3) := by decide +kernel
theorem dX12_width_14 : decode cX12_width 14 = .ok (.istore_n 2, 1) := by decide +kernel
theorem dX12_width_15 : decode cX12_width 15 = .ok (.aload_n 0, 1) := by decide +kernel
theorem dX12_width_16 : decode cX12_width 16 = .ok (.iload_n 1, 1) := by decide +kernel
theorem dX12_width_17 : decode cX12_width 17 = .ok (.putfield 247, 3) := by decide +kernel
theorem dX12_width_20 : decode cX12_width 20 = .ok (.iload_n 2, 1) := by decide +kernel
theorem dX12_width_21 : decode cX12_width 21 = .ok (.ireturn, 1) := by decide +kernel
theorem dX12_whereOf_0 : decode cX12_whereOf 0 = .ok (.aload_n 0, 1) := by decide +kernel
theorem dX12_whereOf_1 : decode cX12_whereOf 1 = .ok (.getfield 26, 3) := by decide +kernel
theorem dX12_whereOf_4 : decode cX12_whereOf 4 = .ok (.iload_n 1, 1) := by decide +kernel
theorem dX12_whereOf_5 : decode cX12_whereOf 5 = .ok (.iaload, 1) := by decide +kernel
theorem dX12_whereOf_6 : decode cX12_whereOf 6 = .ok (.aload_n 0, 1) := by decide +kernel
theorem dX12_whereOf_7 : decode cX12_whereOf 7 = .ok (.getfield 316, 3) := by decide +kernel
theorem dX12_whereOf_10 : decode cX12_whereOf 10 = .ok (.ifCond .eq 23, 3) := by decide +kernel
theorem dX12_whereOf_13 : decode cX12_whereOf 13 = .ok (.aload_n 0, 1) := by decide +kernel
theorem dX12_whereOf_14 : decode cX12_whereOf 14 = .ok (.getfield 23, 3) := by decide +kernel
theorem dX12_whereOf_17 : decode cX12_whereOf 17 = .ok (.iload_n 1, 1) := by decide +kernel
theorem dX12_whereOf_18 : decode cX12_whereOf 18 = .ok (.iaload, 1) := by decide +kernel
theorem dX12_whereOf_19 : decode cX12_whereOf 19 = .ok (.aload_n 0, 1) := by decide +kernel
theorem dX12_whereOf_20 : decode cX12_whereOf 20 = .ok (.getfield 319, 3) := by decide +kernel
theorem dX12_whereOf_23 : decode cX12_whereOf 23 = .ok (.if_icmp .ne 10, 3) := by decide +kernel
theorem dX12_whereOf_26 : decode cX12_whereOf 26 = .ok (.aload_n 0, 1) := by decide +kernel
theorem dX12_whereOf_27 : decode cX12_whereOf 27 = .ok (.getfield 316, 3) := by decide +kernel
theorem dX12_whereOf_30 : decode cX12_whereOf 30 = .ok (.goto 4, 3) := by decide +kernel
theorem dX12_whereOf_33 : decode cX12_whereOf 33 = .ok (.iconst 0, 1) := by decide +kernel
theorem dX12_whereOf_34 : decode cX12_whereOf 34 = .ok (.isub, 1) := by decide +kernel
theorem dX12_whereOf_35 : decode cX12_whereOf 35 = .ok (.iload_n 2, 1) := by decide +kernel
theorem dX12_whereOf_36 : decode cX12_whereOf 36 = .ok (.aload_n 0, 1) := by decide +kernel
theorem dX12_whereOf_37 : decode cX12_whereOf 37 = .ok (.getfield 29, 3) := by decide +kernel
theorem dX12_whereOf_40 : decode cX12_whereOf 40 = .ok (.iload_n 1, 1) := by decide +kernel
theorem dX12_whereOf_41 : decode cX12_whereOf 41 = .ok (.iaload, 1) := by decide +kernel
theorem dX12_whereOf_42 : decode cX12_whereOf 42 = .ok (.imul, 1) := by decide +kernel
theorem dX12_whereOf_43 : decode cX12_whereOf 43 = .ok (.iadd, 1) := by decide +kernel
theorem dX12_whereOf_44 : decode cX12_whereOf 44 = .ok (.ireturn, 1) := by decide +kernel
theorem dX12_foremost_0 : decode cX12_foremost 0 = .ok (.iconst 3, 1) := by decide +kernel
theorem dX12_foremost_1 : decode cX12_foremost 1 = .ok (.istore_n 3, 1) := by decide +kernel
theorem dX12_foremost_2 : decode cX12_foremost 2 = .ok (.aload_n 0, 1) := by decide +kernel
theorem dX12_foremost_3 : decode cX12_foremost 3 = .ok (.iconst 0, 1) := by decide +kernel
theorem dX12_foremost_4 : decode cX12_foremost 4 = .ok (.putfield 322, 3) := by decide +kernel
theorem dX12_foremost_7 : decode cX12_foremost 7 = .ok (.iconst 0, 1) := by decide +kernel
theorem dX12_foremost_8 : decode cX12_foremost 8 = .ok (.istore 4, 2) := by decide +kernel
theorem dX12_foremost_10 : decode cX12_foremost 10 = .ok (.iload 4, 2) := by decide +kernel
theorem dX12_foremost_12 : decode cX12_foremost 12 = .ok (.iconst 4, 1) := by decide +kernel
theorem dX12_foremost_13 : decode cX12_foremost 13 = .ok (.if_icmp .ge 67, 3) := by decide +kernel
theorem dX12_foremost_16 : decode cX12_foremost 16 = .ok (.aload_n 0, 1) := by decide +kernel
theorem dX12_foremost_17 : decode cX12_foremost 17 = .ok (.aload_n 0, 1) := by decide +kernel
theorem dX12_foremost_18 : decode cX12_foremost 18 = .ok (.getfield 303, 3) := by decide +kernel
theorem dX12_foremost_21 : decode cX12_foremost 21 = .ok (.iload_n 1, 1) := by decide +kernel
theorem dX12_foremost_22 : decode cX12_foremost 22 = .ok (.iload 4, 2) := by decide +kernel
theorem dX12_foremost_24 : decode cX12_foremost 24 = .ok (.iload_n 2, 1) := by decide +kernel
theorem dX12_foremost_25 : decode cX12_foremost 25 = .ok (.iconst 0, 1) := by decide +kernel
theorem dX12_foremost_26 : decode cX12_foremost 26 = .ok (.invokevirtual 299, 3) := by decide +kernel
theorem dX12_foremost_29 : decode cX12_foremost 29 = .ok (.ifCond .ne 6, 3) := by decide +kernel
theorem dX12_foremost_32 : decode cX12_foremost 32 = .ok (.goto 42, 3) := by decide +kernel
theorem dX12_foremost_35 : decode cX12_foremost 35 = .ok (.aload_n 0, 1) := by decide +kernel
theorem dX12_foremost_36 : decode cX12_foremost 36 = .ok (.getfield 322, 3) := by decide +kernel
theorem dX12_foremost_39 : decode cX12_foremost 39 = .ok (.ifCond .eq 27, 3) := by decide +kernel
theorem dX12_foremost_42 : decode cX12_foremost 42 = .ok (.aload_n 0, 1) := by decide +kernel
theorem dX12_foremost_43 : decode cX12_foremost 43 = .ok (.getfield 32, 3) := by decide +kernel
theorem dX12_foremost_46 : decode cX12_foremost 46 = .ok (.iconst 4, 1) := by decide +kernel
theorem dX12_foremost_47 : decode cX12_foremost 47 = .ok (.iload_n 1, 1) := by decide +kernel
theorem dX12_foremost_48 : decode cX12_foremost 48 = .ok (.imul, 1) := by decide +kernel
theorem dX12_foremost_49 : decode cX12_foremost 49 = .ok (.iload 4, 2) := by decide +kernel
theorem dX12_foremost_51 : decode cX12_foremost 51 = .ok (.iadd, 1) := by decide +kernel
theorem dX12_foremost_52 : decode cX12_foremost 52 = .ok (.iaload, 1) := by decide +kernel
theorem dX12_foremost_53 : decode cX12_foremost 53 = .ok (.aload_n 0, 1) := by decide +kernel
theorem dX12_foremost_54 : decode cX12_foremost 54 = .ok (.getfield 32, 3) := by decide +kernel
theorem dX12_foremost_57 : decode cX12_foremost 57 = .ok (.iconst 4, 1) := by decide +kernel
theorem dX12_foremost_58 : decode cX12_foremost 58 = .ok (.iload_n 1, 1) := by decide +kernel
theorem dX12_foremost_59 : decode cX12_foremost 59 = .ok (.imul, 1) := by decide +kernel
theorem dX12_foremost_60 : decode cX12_foremost 60 = .ok (.iload_n 3, 1) := by decide +kernel
theorem dX12_foremost_61 : decode cX12_foremost 61 = .ok (.iadd, 1) := by decide +kernel
theorem dX12_foremost_62 : decode cX12_foremost 62 = .ok (.iaload, 1) := by decide +kernel
theorem dX12_foremost_63 : decode cX12_foremost 63 = .ok (.if_icmp .le 6, 3) := by decide +kernel
theorem dX12_foremost_66 : decode cX12_foremost 66 = .ok (.iload 4, 2) := by decide +kernel
theorem dX12_foremost_68 : decode cX12_foremost 68 = .ok (.istore_n 3, 1) := by decide +kernel
theorem dX12_foremost_69 : decode cX12_foremost 69 = .ok (.aload_n 0, 1) := by decide +kernel
theorem dX12_foremost_70 : decode cX12_foremost 70 = .ok (.iconst 1, 1) := by decide +kernel
theorem dX12_foremost_71 : decode cX12_foremost 71 = .ok (.putfield 322, 3) := by decide +kernel
theorem dX12_foremost_74 : decode cX12_foremost 74 = .ok (.iinc 4 1, 3) := by decide +kernel
theorem dX12_foremost_77 : decode cX12_foremost 77 = .ok (.goto (-67), 3) := by decide +kernel
theorem dX12_foremost_80 : decode cX12_foremost 80 = .ok (.iload_n 3, 1) := by decide +kernel
theorem dX12_foremost_81 : decode cX12_foremost 81 = .ok (.ireturn, 1) := by decide +kernel
theorem dX12_frontOf_0 : decode cX12_frontOf 0 = .ok (.aload_n 0, 1) := by decide +kernel
theorem dX12_frontOf_1 : decode cX12_frontOf 1 = .ok (.iload_n 1, 1) := by decide +kernel
theorem dX12_frontOf_2 : decode cX12_frontOf 2 = .ok (.iload_n 2, 1) := by decide +kernel
theorem dX12_frontOf_3 : decode cX12_frontOf 3 = .ok (.invokevirtual 325, 3) := by decide +kernel
theorem dX12_frontOf_6 : decode cX12_frontOf 6 = .ok (.istore_n 3, 1) := by decide +kernel
theorem dX12_frontOf_7 : decode cX12_frontOf 7 = .ok (.aload_n 0, 1) := by decide +kernel
theorem dX12_frontOf_8 : decode cX12_frontOf 8 = .ok (.iload_n 1, 1) := by decide +kernel
theorem dX12_frontOf_9 : decode cX12_frontOf 9 = .ok (.iload_n 2, 1) := by decide +kernel
theorem dX12_frontOf_10 : decode cX12_frontOf 10 = .ok (.invokevirtual 329, 3) := by decide +kernel
theorem dX12_frontOf_13 : decode cX12_frontOf 13 = .ok (.aload_n 0, 1) := by decide +kernel
theorem dX12_frontOf_14 : decode cX12_frontOf 14 = .ok (.getfield 322, 3) := by decide +kernel
theorem dX12_frontOf_17 : decode cX12_frontOf 17 = .ok (.ifCond .eq 16, 3) := by decide +kernel
theorem dX12_frontOf_20 : decode cX12_frontOf 20 = .ok (.aload_n 0, 1) := by decide +kernel
theorem dX12_frontOf_21 : decode cX12_frontOf 21 = .ok (.getfield 32, 3) := by decide +kernel
theorem dX12_frontOf_24 : decode cX12_frontOf 24 = .ok (.iconst 4, 1) := by decide +kernel
theorem dX12_frontOf_25 : decode cX12_frontOf 25 = .ok (.iload_n 1, 1) := by decide +kernel
theorem dX12_frontOf_26 : decode cX12_frontOf 26 = .ok (.imul, 1) := by decide +kernel
theorem dX12_frontOf_27 : decode cX12_frontOf 27 = .ok (.iload_n 3, 1) := by decide +kernel
theorem dX12_frontOf_28 : decode cX12_frontOf 28 = .ok (.iadd, 1) := by decide +kernel
theorem dX12_frontOf_29 : decode cX12_frontOf 29 = .ok (.iaload, 1) := by decide +kernel
theorem dX12_frontOf_30 : decode cX12_frontOf 30 = .ok (.goto 4, 3) := by decide +kernel
theorem dX12_frontOf_33 : decode cX12_frontOf 33 = .ok (.iconst 0, 1) := by decide +kernel
theorem dX12_frontOf_34 : decode cX12_frontOf 34 = .ok (.iadd, 1) := by decide +kernel
theorem dX12_frontOf_35 : decode cX12_frontOf 35 = .ok (.ireturn, 1) := by decide +kernel
theorem dX12_front_0 : decode cX12_front 0 = .ok (.aload_n 0, 1) := by decide +kernel
theorem dX12_front_1 : decode cX12_front 1 = .ok (.iload_n 1, 1) := by decide +kernel
theorem dX12_front_2 : decode cX12_front 2 = .ok (.invokevirtual 154, 3) := by decide +kernel
theorem dX12_front_5 : decode cX12_front 5 = .ok (.ifCond .eq 22, 3) := by decide +kernel
theorem dX12_front_8 : decode cX12_front 8 = .ok (.iload_n 2, 1) := by decide +kernel
theorem dX12_front_9 : decode cX12_front 9 = .ok (.invokestatic 306, 3) := by decide +kernel
theorem dX12_front_12 : decode cX12_front 12 = .ok (.ifCond .eq 15, 3) := by decide +kernel
theorem dX12_front_15 : decode cX12_front 15 = .ok (.iload_n 3, 1) := by decide +kernel
theorem dX12_front_16 : decode cX12_front 16 = .ok (.i2l, 1) := by decide +kernel
theorem dX12_front_17 : decode cX12_front 17 = .ok (.lconst 0, 1) := by decide +kernel
theorem dX12_front_18 : decode cX12_front 18 = .ok (.ldc2_w 309, 3) := by decide +kernel
theorem dX12_front_21 : decode cX12_front 21 = .ok (.invokestatic 138, 3) := by decide +kernel
theorem dX12_front_24 : decode cX12_front 24 = .ok (.ifCond .ne 7, 3) := by decide +kernel
theorem dX12_front_27 : decode cX12_front 27 = .ok (.ldc2_w 311, 3) := by decide +kernel
theorem dX12_front_30 : decode cX12_front 30 = .ok (.lreturn, 1) := by decide +kernel
theorem dX12_front_31 : decode cX12_front 31 = .ok (.iload_n 3, 1) := by decide +kernel
theorem dX12_front_32 : decode cX12_front 32 = .ok (.ifCond .ne 13, 3) := by decide +kernel
theorem dX12_front_35 : decode cX12_front 35 = .ok (.aload_n 0, 1) := by decide +kernel
theorem dX12_front_36 : decode cX12_front 36 = .ok (.iload_n 1, 1) := by decide +kernel
theorem dX12_front_37 : decode cX12_front 37 = .ok (.iload_n 2, 1) := by decide +kernel
theorem dX12_front_38 : decode cX12_front 38 = .ok (.invokevirtual 332, 3) := by decide +kernel
theorem dX12_front_41 : decode cX12_front 41 = .ok (.i2l, 1) := by decide +kernel
theorem dX12_front_42 : decode cX12_front 42 = .ok (.goto 25, 3) := by decide +kernel
theorem dX12_front_45 : decode cX12_front 45 = .ok (.iload_n 3, 1) := by decide +kernel
theorem dX12_front_46 : decode cX12_front 46 = .ok (.iconst 1, 1) := by decide +kernel
theorem dX12_front_47 : decode cX12_front 47 = .ok (.if_icmp .ne 13, 3) := by decide +kernel
theorem dX12_front_50 : decode cX12_front 50 = .ok (.aload_n 0, 1) := by decide +kernel
theorem dX12_front_51 : decode cX12_front 51 = .ok (.iload_n 1, 1) := by decide +kernel
theorem dX12_front_52 : decode cX12_front 52 = .ok (.iload_n 2, 1) := by decide +kernel
theorem dX12_front_53 : decode cX12_front 53 = .ok (.invokevirtual 325, 3) := by decide +kernel
theorem dX12_front_56 : decode cX12_front 56 = .ok (.i2l, 1) := by decide +kernel
theorem dX12_front_57 : decode cX12_front 57 = .ok (.goto 10, 3) := by decide +kernel
theorem dX12_front_60 : decode cX12_front 60 = .ok (.aload_n 0, 1) := by decide +kernel
theorem dX12_front_61 : decode cX12_front 61 = .ok (.iload_n 1, 1) := by decide +kernel
theorem dX12_front_62 : decode cX12_front 62 = .ok (.iload_n 2, 1) := by decide +kernel
theorem dX12_front_63 : decode cX12_front 63 = .ok (.invokevirtual 329, 3) := by decide +kernel
theorem dX12_front_66 : decode cX12_front 66 = .ok (.i2l, 1) := by decide +kernel
theorem dX12_front_67 : decode cX12_front 67 = .ok (.lreturn, 1) := by decide +kernel
theorem dX12_camera_0 : decode cX12_camera 0 = .ok (.iload_n 1, 1) := by decide +kernel
theorem dX12_camera_1 : decode cX12_camera 1 = .ok (.i2l, 1) := by decide +kernel
theorem dX12_camera_2 : decode cX12_camera 2 = .ok (.lconst 1, 1) := by decide +kernel
theorem dX12_camera_3 : decode cX12_camera 3 = .ok (.ldc2_w 335, 3) := by decide +kernel
theorem dX12_camera_6 : decode cX12_camera 6 = .ok (.invokestatic 138, 3) := by decide +kernel
theorem dX12_camera_9 : decode cX12_camera 9 = .ok (.ifCond .eq 29, 3) := by decide +kernel
theorem dX12_camera_12 : decode cX12_camera 12 = .ok (.iload_n 2, 1) := by decide +kernel
theorem dX12_camera_13 : decode cX12_camera 13 = .ok (.i2l, 1) := by decide +kernel
theorem dX12_camera_14 : decode cX12_camera 14 = .ok (.lconst 0, 1) := by decide +kernel
theorem dX12_camera_15 : decode cX12_camera 15 = .ok (.ldc2_w 337, 3) := by decide +kernel
theorem dX12_camera_18 : decode cX12_camera 18 = .ok (.invokestatic 138, 3) := by decide +kernel
theorem dX12_camera_21 : decode cX12_camera 21 = .ok (.ifCond .eq 17, 3) := by decide +kernel
theorem dX12_camera_24 : decode cX12_camera 24 = .ok (.iload_n 3, 1) := by decide +kernel
theorem dX12_camera_25 : decode cX12_camera 25 = .ok (.i2l, 1) := by decide +kernel
theorem dX12_camera_26 : decode cX12_camera 26 = .ok (.ldc2_w 339, 3) := by decide +kernel
theorem dX12_camera_29 : decode cX12_camera 29 = .ok (.ldc2_w 341, 3) := by decide +kernel
theorem dX12_camera_32 : decode cX12_camera 32 = .ok (.invokestatic 138, 3) := by decide +kernel
theorem dX12_camera_35 : decode cX12_camera 35 = .ok (.ifCond .ne 6, 3) := by decide +kernel
theorem dX12_camera_38 : decode cX12_camera 38 = .ok (.bipush (-2), 2) := by decide +kernel
theorem dX12_camera_40 : decode cX12_camera 40 = .ok (.ireturn, 1) := by decide +kernel
theorem dX12_camera_41 : decode cX12_camera 41 = .ok (.aload_n 0, 1) := by decide +kernel
theorem dX12_camera_42 : decode cX12_camera 42 = .ok (.getfield 343, 3) := by decide +kernel
theorem dX12_camera_45 : decode cX12_camera 45 = .ok (.iconst 4, 1) := by decide +kernel
theorem dX12_camera_46 : decode cX12_camera 46 = .ok (.if_icmp .ne 6, 3) := by decide +kernel
theorem dX12_camera_49 : decode cX12_camera 49 = .ok (.bipush (-4), 2) := by decide +kernel
theorem dX12_camera_51 : decode cX12_camera 51 = .ok (.ireturn, 1) := by decide +kernel
theorem dX12_camera_52 : decode cX12_camera 52 = .ok (.aload_n 0, 1) := by decide +kernel
theorem dX12_camera_53 : decode cX12_camera 53 = .ok (.getfield 35, 3) := by decide +kernel
theorem dX12_camera_56 : decode cX12_camera 56 = .ok (.aload_n 0, 1) := by decide +kernel
theorem dX12_camera_57 : decode cX12_camera 57 = .ok (.getfield 343, 3) := by decide +kernel
theorem dX12_camera_60 : decode cX12_camera 60 = .ok (.iload_n 1, 1) := by decide +kernel
theorem dX12_camera_61 : decode cX12_camera 61 = .ok (.iastore, 1) := by decide +kernel
theorem dX12_camera_62 : decode cX12_camera 62 = .ok (.aload_n 0, 1) := by decide +kernel
theorem dX12_camera_63 : decode cX12_camera 63 = .ok (.getfield 38, 3) := by decide +kernel
theorem dX12_camera_66 : decode cX12_camera 66 = .ok (.aload_n 0, 1) := by decide +kernel
theorem dX12_camera_67 : decode cX12_camera 67 = .ok (.getfield 343, 3) := by decide +kernel
theorem dX12_camera_70 : decode cX12_camera 70 = .ok (.iload_n 2, 1) := by decide +kernel
theorem dX12_camera_71 : decode cX12_camera 71 = .ok (.iastore, 1) := by decide +kernel
theorem dX12_camera_72 : decode cX12_camera 72 = .ok (.aload_n 0, 1) := by decide +kernel
theorem dX12_camera_73 : decode cX12_camera 73 = .ok (.getfield 41, 3) := by decide +kernel
theorem dX12_camera_76 : decode cX12_camera 76 = .ok (.aload_n 0, 1) := by decide +kernel
theorem dX12_camera_77 : decode cX12_camera 77 = .ok (.getfield 343, 3) := by decide +kernel
theorem dX12_camera_80 : decode cX12_camera 80 = .ok (.iload_n 3, 1) := by decide +kernel
theorem dX12_camera_81 : decode cX12_camera 81 = .ok (.iastore, 1) := by decide +kernel
theorem dX12_camera_82 : decode cX12_camera 82 = .ok (.aload_n 0, 1) := by decide +kernel
theorem dX12_camera_83 : decode cX12_camera 83 = .ok (.dup, 1) := by decide +kernel
theorem dX12_camera_84 : decode cX12_camera 84 = .ok (.getfield 343, 3) := by decide +kernel
theorem dX12_camera_87 : decode cX12_camera 87 = .ok (.iconst 1, 1) := by decide +kernel
theorem dX12_camera_88 : decode cX12_camera 88 = .ok (.iadd, 1) := by decide +kernel
theorem dX12_camera_89 : decode cX12_camera 89 = .ok (.putfield 343, 3) := by decide +kernel
theorem dX12_camera_92 : decode cX12_camera 92 = .ok (.aload_n 0, 1) := by decide +kernel
theorem dX12_camera_93 : decode cX12_camera 93 = .ok (.getfield 343, 3) := by decide +kernel
theorem dX12_camera_96 : decode cX12_camera 96 = .ok (.iconst 1, 1) := by decide +kernel
theorem dX12_camera_97 : decode cX12_camera 97 = .ok (.isub, 1) := by decide +kernel
theorem dX12_camera_98 : decode cX12_camera 98 = .ok (.ireturn, 1) := by decide +kernel
theorem dX12_frameOf_0 : decode cX12_frameOf 0 = .ok (.iload_n 2, 1) := by decide +kernel
theorem dX12_frameOf_1 : decode cX12_frameOf 1 = .ok (.aload_n 0, 1) := by decide +kernel
theorem dX12_frameOf_2 : decode cX12_frameOf 2 = .ok (.getfield 38, 3) := by decide +kernel
theorem dX12_frameOf_5 : decode cX12_frameOf 5 = .ok (.iload_n 1, 1) := by decide +kernel
theorem dX12_frameOf_6 : decode cX12_frameOf 6 = .ok (.iaload, 1) := by decide +kernel
theorem dX12_frameOf_7 : decode cX12_frameOf 7 = .ok (.if_icmp .ge 12, 3) := by decide +kernel
theorem dX12_frameOf_10 : decode cX12_frameOf 10 = .ok (.aload_n 0, 1) := by decide +kernel
theorem dX12_frameOf_11 : decode cX12_frameOf 11 = .ok (.getfield 38, 3) := by decide +kernel
theorem dX12_frameOf_14 : decode cX12_frameOf 14 = .ok (.iload_n 1, 1) := by decide +kernel
theorem dX12_frameOf_15 : decode cX12_frameOf 15 = .ok (.iaload, 1) := by decide +kernel
theorem dX12_frameOf_16 : decode cX12_frameOf 16 = .ok (.goto 20, 3) := by decide +kernel
theorem dX12_frameOf_19 : decode cX12_frameOf 19 = .ok (.iload_n 2, 1) := by decide +kernel
theorem dX12_frameOf_20 : decode cX12_frameOf 20 = .ok (.iload_n 2, 1) := by decide +kernel
theorem dX12_frameOf_21 : decode cX12_frameOf 21 = .ok (.aload_n 0, 1) := by decide +kernel
theorem dX12_frameOf_22 : decode cX12_frameOf 22 = .ok (.getfield 38, 3) := by decide +kernel
theorem dX12_frameOf_25 : decode cX12_frameOf 25 = .ok (.iload_n 1, 1) := by decide +kernel
theorem dX12_frameOf_26 : decode cX12_frameOf 26 = .ok (.iaload, 1) := by decide +kernel
theorem dX12_frameOf_27 : decode cX12_frameOf 27 = .ok (.isub, 1) := by decide +kernel
theorem dX12_frameOf_28 : decode cX12_frameOf 28 = .ok (.aload_n 0, 1) := by decide +kernel
theorem dX12_frameOf_29 : decode cX12_frameOf 29 = .ok (.getfield 35, 3) := by decide +kernel
theorem dX12_frameOf_32 : decode cX12_frameOf 32 = .ok (.iload_n 1, 1) := by decide +kernel
theorem dX12_frameOf_33 : decode cX12_frameOf 33 = .ok (.iaload, 1) := by decide +kernel
theorem dX12_frameOf_34 : decode cX12_frameOf 34 = .ok (.irem, 1) := by decide +kernel
theorem dX12_frameOf_35 : decode cX12_frameOf 35 = .ok (.isub, 1) := by decide +kernel
theorem dX12_frameOf_36 : decode cX12_frameOf 36 = .ok (.ireturn, 1) := by decide +kernel
theorem dX12_frame_0 : decode cX12_frame 0 = .ok (.iload_n 1, 1) := by decide +kernel
theorem dX12_frame_1 : decode cX12_frame 1 = .ok (.i2l, 1) := by decide +kernel
theorem dX12_frame_2 : decode cX12_frame 2 = .ok (.lconst 0, 1) := by decide +kernel
theorem dX12_frame_3 : decode cX12_frame 3 = .ok (.aload_n 0, 1) := by decide +kernel
theorem dX12_frame_4 : decode cX12_frame 4 = .ok (.getfield 343, 3) := by decide +kernel
theorem dX12_frame_7 : decode cX12_frame 7 = .ok (.iconst 1, 1) := by decide +kernel
theorem dX12_frame_8 : decode cX12_frame 8 = .ok (.isub, 1) := by decide +kernel
theorem dX12_frame_9 : decode cX12_frame 9 = .ok (.i2l, 1) := by decide +kernel
theorem dX12_frame_10 : decode cX12_frame 10 = .ok (.invokestatic 138, 3) := by decide +kernel
theorem dX12_frame_13 : decode cX12_frame 13 = .ok (.ifCond .eq 19, 3) := by decide +kernel
theorem dX12_frame_16 : decode cX12_frame 16 = .ok (.iload_n 2, 1) := by decide +kernel
theorem dX12_frame_17 : decode cX12_frame 17 = .ok (.invokestatic 306, 3) := by decide +kernel
theorem dX12_frame_20 : decode cX12_frame 20 = .ok (.ifCond .eq 12, 3) := by decide +kernel
theorem dX12_frame_23 : decode cX12_frame 23 = .ok (.aload_n 0, 1) := by decide +kernel
theorem dX12_frame_24 : decode cX12_frame 24 = .ok (.iload_n 1, 1) := by decide +kernel
theorem dX12_frame_25 : decode cX12_frame 25 = .ok (.iload_n 2, 1) := by decide +kernel
theorem dX12_frame_26 : decode cX12_frame 26 = .ok (.invokevirtual 346, 3) := by decide +kernel
theorem dX12_frame_29 : decode cX12_frame 29 = .ok (.goto 5, 3) := by decide +kernel
theorem dX12_frame_32 : decode cX12_frame 32 = .ok (.bipush (-2), 2) := by decide +kernel
theorem dX12_frame_34 : decode cX12_frame 34 = .ok (.ireturn, 1) := by decide +kernel
theorem dX12_seen_0 : decode cX12_seen 0 = .ok (.iload_n 2, 1) := by decide +kernel
theorem dX12_seen_1 : decode cX12_seen 1 = .ok (.aload_n 0, 1) := by decide +kernel
theorem dX12_seen_2 : decode cX12_seen 2 = .ok (.getfield 41, 3) := by decide +kernel
theorem dX12_seen_5 : decode cX12_seen 5 = .ok (.iload_n 1, 1) := by decide +kernel
theorem dX12_seen_6 : decode cX12_seen 6 = .ok (.iaload, 1) := by decide +kernel
theorem dX12_seen_7 : decode cX12_seen 7 = .ok (.iload_n 2, 1) := by decide +kernel
theorem dX12_seen_8 : decode cX12_seen 8 = .ok (.imul, 1) := by decide +kernel
theorem dX12_seen_9 : decode cX12_seen 9 = .ok (.sipush 1000, 3) := by decide +kernel
theorem dX12_seen_12 : decode cX12_seen 12 = .ok (.idiv, 1) := by decide +kernel
theorem dX12_seen_13 : decode cX12_seen 13 = .ok (.iadd, 1) := by decide +kernel
theorem dX12_seen_14 : decode cX12_seen 14 = .ok (.ireturn, 1) := by decide +kernel
theorem dX12_sees_0 : decode cX12_sees 0 = .ok (.iload_n 1, 1) := by decide +kernel
theorem dX12_sees_1 : decode cX12_sees 1 = .ok (.i2l, 1) := by decide +kernel
theorem dX12_sees_2 : decode cX12_sees 2 = .ok (.lconst 0, 1) := by decide +kernel
theorem dX12_sees_3 : decode cX12_sees 3 = .ok (.aload_n 0, 1) := by decide +kernel
theorem dX12_sees_4 : decode cX12_sees 4 = .ok (.getfield 343, 3) := by decide +kernel
theorem dX12_sees_7 : decode cX12_sees 7 = .ok (.iconst 1, 1) := by decide +kernel
theorem dX12_sees_8 : decode cX12_sees 8 = .ok (.isub, 1) := by decide +kernel
theorem dX12_sees_9 : decode cX12_sees 9 = .ok (.i2l, 1) := by decide +kernel
theorem dX12_sees_10 : decode cX12_sees 10 = .ok (.invokestatic 138, 3) := by decide +kernel
theorem dX12_sees_13 : decode cX12_sees 13 = .ok (.ifCond .eq 27, 3) := by decide +kernel
theorem dX12_sees_16 : decode cX12_sees 16 = .ok (.iload_n 2, 1) := by decide +kernel
theorem dX12_sees_17 : decode cX12_sees 17 = .ok (.i2l, 1) := by decide +kernel
theorem dX12_sees_18 : decode cX12_sees 18 = .ok (.ldc2_w 349, 3) := by decide +kernel
theorem dX12_sees_21 : decode cX12_sees 21 = .ok (.ldc2_w 351, 3) := by decide +kernel
theorem dX12_sees_24 : decode cX12_sees 24 = .ok (.invokestatic 138, 3) := by decide +kernel
theorem dX12_sees_27 : decode cX12_sees 27 = .ok (.ifCond .eq 13, 3) := by decide +kernel
theorem dX12_sees_30 : decode cX12_sees 30 = .ok (.aload_n 0, 1) := by decide +kernel
theorem dX12_sees_31 : decode cX12_sees 31 = .ok (.iload_n 1, 1) := by decide +kernel
theorem dX12_sees_32 : decode cX12_sees 32 = .ok (.iload_n 2, 1) := by decide +kernel
theorem dX12_sees_33 : decode cX12_sees 33 = .ok (.invokevirtual 353, 3) := by decide +kernel
theorem dX12_sees_36 : decode cX12_sees 36 = .ok (.i2l, 1) := by decide +kernel
theorem dX12_sees_37 : decode cX12_sees 37 = .ok (.goto 6, 3) := by decide +kernel
theorem dX12_sees_40 : decode cX12_sees 40 = .ok (.ldc2_w 311, 3) := by decide +kernel
theorem dX12_sees_43 : decode cX12_sees 43 = .ok (.lreturn, 1) := by decide +kernel
theorem dX12_crosser_0 : decode cX12_crosser 0 = .ok (.iload_n 1, 1) := by decide +kernel
theorem dX12_crosser_1 : decode cX12_crosser 1 = .ok (.i2l, 1) := by decide +kernel
theorem dX12_crosser_2 : decode cX12_crosser 2 = .ok (.ldc2_w 356, 3) := by decide +kernel
theorem dX12_crosser_5 : decode cX12_crosser 5 = .ok (.ldc2_w 335, 3) := by decide +kernel
theorem dX12_crosser_8 : decode cX12_crosser 8 = .ok (.invokestatic 138, 3) := by decide +kernel
theorem dX12_crosser_11 : decode cX12_crosser 11 = .ok (.ifCond .eq 15, 3) := by decide +kernel
theorem dX12_crosser_14 : decode cX12_crosser 14 = .ok (.iload_n 2, 1) := by decide +kernel
theorem dX12_crosser_15 : decode cX12_crosser 15 = .ok (.i2l, 1) := by decide +kernel
theorem dX12_crosser_16 : decode cX12_crosser 16 = .ok (.lconst 0, 1) := by decide +kernel
theorem dX12_crosser_17 : decode cX12_crosser 17 = .ok (.ldc2_w 341, 3) := by decide +kernel
theorem dX12_crosser_20 : decode cX12_crosser 20 = .ok (.invokestatic 138, 3) := by decide +kernel
theorem dX12_crosser_23 : decode cX12_crosser 23 = .ok (.ifCond .ne 6, 3) := by decide +kernel
theorem dX12_crosser_26 : decode cX12_crosser 26 = .ok (.bipush (-2), 2) := by decide +kernel
theorem dX12_crosser_28 : decode cX12_crosser 28 = .ok (.ireturn, 1) := by decide +kernel
theorem dX12_crosser_29 : decode cX12_crosser 29 = .ok (.aload_n 0, 1) := by decide +kernel
theorem dX12_crosser_30 : decode cX12_crosser 30 = .ok (.getfield 358, 3) := by decide +kernel
theorem dX12_crosser_33 : decode cX12_crosser 33 = .ok (.bipush 6, 2) := by decide +kernel
theorem dX12_crosser_35 : decode cX12_crosser 35 = .ok (.if_icmp .ne 6, 3) := by decide +kernel
theorem dX12_crosser_38 : decode cX12_crosser 38 = .ok (.bipush (-4), 2) := by decide +kernel
theorem dX12_crosser_40 : decode cX12_crosser 40 = .ok (.ireturn, 1) := by decide +kernel
theorem dX12_crosser_41 : decode cX12_crosser 41 = .ok (.aload_n 0, 1) := by decide +kernel
theorem dX12_crosser_42 : decode cX12_crosser 42 = .ok (.getfield 44, 3) := by decide +kernel
theorem dX12_crosser_45 : decode cX12_crosser 45 = .ok (.aload_n 0, 1) := by decide +kernel
theorem dX12_crosser_46 : decode cX12_crosser 46 = .ok (.getfield 358, 3) := by decide +kernel
theorem dX12_crosser_49 : decode cX12_crosser 49 = .ok (.iload_n 1, 1) := by decide +kernel
theorem dX12_crosser_50 : decode cX12_crosser 50 = .ok (.iastore, 1) := by decide +kernel
theorem dX12_crosser_51 : decode cX12_crosser 51 = .ok (.aload_n 0, 1) := by decide +kernel
theorem dX12_crosser_52 : decode cX12_crosser 52 = .ok (.getfield 47, 3) := by decide +kernel
theorem dX12_crosser_55 : decode cX12_crosser 55 = .ok (.aload_n 0, 1) := by decide +kernel
theorem dX12_crosser_56 : decode cX12_crosser 56 = .ok (.getfield 358, 3) := by decide +kernel
theorem dX12_crosser_59 : decode cX12_crosser 59 = .ok (.iload_n 2, 1) := by decide +kernel
theorem dX12_crosser_60 : decode cX12_crosser 60 = .ok (.iastore, 1) := by decide +kernel
theorem dX12_crosser_61 : decode cX12_crosser 61 = .ok (.aload_n 0, 1) := by decide +kernel
theorem dX12_crosser_62 : decode cX12_crosser 62 = .ok (.dup, 1) := by decide +kernel
theorem dX12_crosser_63 : decode cX12_crosser 63 = .ok (.getfield 358, 3) := by decide +kernel
theorem dX12_crosser_66 : decode cX12_crosser 66 = .ok (.iconst 1, 1) := by decide +kernel
theorem dX12_crosser_67 : decode cX12_crosser 67 = .ok (.iadd, 1) := by decide +kernel
theorem dX12_crosser_68 : decode cX12_crosser 68 = .ok (.putfield 358, 3) := by decide +kernel
theorem dX12_crosser_71 : decode cX12_crosser 71 = .ok (.aload_n 0, 1) := by decide +kernel
theorem dX12_crosser_72 : decode cX12_crosser 72 = .ok (.getfield 358, 3) := by decide +kernel
theorem dX12_crosser_75 : decode cX12_crosser 75 = .ok (.iconst 1, 1) := by decide +kernel
theorem dX12_crosser_76 : decode cX12_crosser 76 = .ok (.isub, 1) := by decide +kernel
theorem dX12_crosser_77 : decode cX12_crosser 77 = .ok (.ireturn, 1) := by decide +kernel
theorem dX12_call_0 : decode cX12_call 0 = .ok (.iload_n 1, 1) := by decide +kernel
theorem dX12_call_1 : decode cX12_call 1 = .ok (.i2l, 1) := by decide +kernel
theorem dX12_call_2 : decode cX12_call 2 = .ok (.lconst 0, 1) := by decide +kernel
theorem dX12_call_3 : decode cX12_call 3 = .ok (.ldc2_w 361, 3) := by decide +kernel
theorem dX12_call_6 : decode cX12_call 6 = .ok (.invokestatic 138, 3) := by decide +kernel
theorem dX12_call_9 : decode cX12_call 9 = .ok (.ifCond .eq 77, 3) := by decide +kernel
theorem dX12_call_12 : decode cX12_call 12 = .ok (.aload_n 0, 1) := by decide +kernel
theorem dX12_call_13 : decode cX12_call 13 = .ok (.iload_n 2, 1) := by decide +kernel
theorem dX12_call_14 : decode cX12_call 14 = .ok (.invokevirtual 154, 3) := by decide +kernel
theorem dX12_call_17 : decode cX12_call 17 = .ok (.ifCond .eq 69, 3) := by decide +kernel
theorem dX12_call_20 : decode cX12_call 20 = .ok (.aload_n 0, 1) := by decide +kernel
theorem dX12_call_21 : decode cX12_call 21 = .ok (.iload_n 3, 1) := by decide +kernel
theorem dX12_call_22 : decode cX12_call 22 = .ok (.invokevirtual 154, 3) := by decide +kernel
theorem dX12_call_25 : decode cX12_call 25 = .ok (.ifCond .eq 61, 3) := by decide +kernel
theorem dX12_call_28 : decode cX12_call 28 = .ok (.iload_n 2, 1) := by decide +kernel
theorem dX12_call_29 : decode cX12_call 29 = .ok (.iload_n 3, 1) := by decide +kernel
theorem dX12_call_30 : decode cX12_call 30 = .ok (.if_icmp .eq 56, 3) := by decide +kernel
theorem dX12_call_33 : decode cX12_call 33 = .ok (.iload 4, 2) := by decide +kernel
theorem dX12_call_35 : decode cX12_call 35 = .ok (.invokestatic 306, 3) := by decide +kernel
theorem dX12_call_38 : decode cX12_call 38 = .ok (.ifCond .eq 48, 3) := by decide +kernel
theorem dX12_call_41 : decode cX12_call 41 = .ok (.iload 5, 2) := by decide +kernel
theorem dX12_call_43 : decode cX12_call 43 = .ok (.ifCond .lt 43, 3) := by decide +kernel
theorem dX12_call_46 : decode cX12_call 46 = .ok (.iload 5, 2) := by decide +kernel
theorem dX12_call_48 : decode cX12_call 48 = .ok (.bipush 10, 2) := by decide +kernel
theorem dX12_call_50 : decode cX12_call 50 = .ok (.idiv, 1) := by decide +kernel
theorem dX12_call_51 : decode cX12_call 51 = .ok (.i2l, 1) := by decide +kernel
theorem dX12_call_52 : decode cX12_call 52 = .ok (.lconst 0, 1) := by decide +kernel
theorem dX12_call_53 : decode cX12_call 53 = .ok (.aload_n 0, 1) := by decide +kernel
theorem dX12_call_54 : decode cX12_call 54 = .ok (.getfield 343, 3) := by decide +kernel
theorem dX12_call_57 : decode cX12_call 57 = .ok (.iconst 1, 1) := by decide +kernel
theorem dX12_call_58 : decode cX12_call 58 = .ok (.isub, 1) := by decide +kernel
theorem dX12_call_59 : decode cX12_call 59 = .ok (.i2l, 1) := by decide +kernel
theorem dX12_call_60 : decode cX12_call 60 = .ok (.invokestatic 138, 3) := by decide +kernel
theorem dX12_call_63 : decode cX12_call 63 = .ok (.ifCond .eq 23, 3) := by decide +kernel
theorem dX12_call_66 : decode cX12_call 66 = .ok (.iload 5, 2) := by decide +kernel
theorem dX12_call_68 : decode cX12_call 68 = .ok (.bipush 10, 2) := by decide +kernel
theorem dX12_call_70 : decode cX12_call 70 = .ok (.irem, 1) := by decide +kernel
theorem dX12_call_71 : decode cX12_call 71 = .ok (.i2l, 1) := by decide +kernel
theorem dX12_call_72 : decode cX12_call 72 = .ok (.lconst 0, 1) := by decide +kernel
theorem dX12_call_73 : decode cX12_call 73 = .ok (.aload_n 0, 1) := by decide +kernel
theorem dX12_call_74 : decode cX12_call 74 = .ok (.getfield 358, 3) := by decide +kernel
theorem dX12_call_77 : decode cX12_call 77 = .ok (.iconst 1, 1) := by decide +kernel
theorem dX12_call_78 : decode cX12_call 78 = .ok (.isub, 1) := by decide +kernel
theorem dX12_call_79 : decode cX12_call 79 = .ok (.i2l, 1) := by decide +kernel
theorem dX12_call_80 : decode cX12_call 80 = .ok (.invokestatic 138, 3) := by decide +kernel
theorem dX12_call_83 : decode cX12_call 83 = .ok (.ifCond .ne 6, 3) := by decide +kernel
theorem dX12_call_86 : decode cX12_call 86 = .ok (.bipush (-2), 2) := by decide +kernel
theorem dX12_call_88 : decode cX12_call 88 = .ok (.ireturn, 1) := by decide +kernel
theorem dX12_call_89 : decode cX12_call 89 = .ok (.aload_n 0, 1) := by decide +kernel
theorem dX12_call_90 : decode cX12_call 90 = .ok (.getfield 363, 3) := by decide +kernel
theorem dX12_call_93 : decode cX12_call 93 = .ok (.bipush 24, 2) := by decide +kernel
theorem dX12_call_95 : decode cX12_call 95 = .ok (.if_icmp .ne 6, 3) := by decide +kernel
theorem dX12_call_98 : decode cX12_call 98 = .ok (.bipush (-4), 2) := by decide +kernel
theorem dX12_call_100 : decode cX12_call 100 = .ok (.ireturn, 1) := by decide +kernel
theorem dX12_call_101 : decode cX12_call 101 = .ok (.aload_n 0, 1) := by decide +kernel
theorem dX12_call_102 : decode cX12_call 102 = .ok (.getfield 50, 3) := by decide +kernel
theorem dX12_call_105 : decode cX12_call 105 = .ok (.aload_n 0, 1) := by decide +kernel
theorem dX12_call_106 : decode cX12_call 106 = .ok (.getfield 363, 3) := by decide +kernel
theorem dX12_call_109 : decode cX12_call 109 = .ok (.iload_n 1, 1) := by decide +kernel
theorem dX12_call_110 : decode cX12_call 110 = .ok (.iastore, 1) := by decide +kernel
theorem dX12_call_111 : decode cX12_call 111 = .ok (.aload_n 0, 1) := by decide +kernel
theorem dX12_call_112 : decode cX12_call 112 = .ok (.getfield 53, 3) := by decide +kernel
theorem dX12_call_115 : decode cX12_call 115 = .ok (.aload_n 0, 1) := by decide +kernel
theorem dX12_call_116 : decode cX12_call 116 = .ok (.getfield 363, 3) := by decide +kernel
theorem dX12_call_119 : decode cX12_call 119 = .ok (.iload_n 2, 1) := by decide +kernel
theorem dX12_call_120 : decode cX12_call 120 = .ok (.iastore, 1) := by decide +kernel
theorem dX12_call_121 : decode cX12_call 121 = .ok (.aload_n 0, 1) := by decide +kernel
theorem dX12_call_122 : decode cX12_call 122 = .ok (.getfield 56, 3) := by decide +kernel
theorem dX12_call_125 : decode cX12_call 125 = .ok (.aload_n 0, 1) := by decide +kernel
theorem dX12_call_126 : decode cX12_call 126 = .ok (.getfield 363, 3) := by decide +kernel
theorem dX12_call_129 : decode cX12_call 129 = .ok (.iload_n 3, 1) := by decide +kernel
theorem dX12_call_130 : decode cX12_call 130 = .ok (.iastore, 1) := by decide +kernel
theorem dX12_call_131 : decode cX12_call 131 = .ok (.aload_n 0, 1) := by decide +kernel
theorem dX12_call_132 : decode cX12_call 132 = .ok (.getfield 59, 3) := by decide +kernel
theorem dX12_call_135 : decode cX12_call 135 = .ok (.aload_n 0, 1) := by decide +kernel
theorem dX12_call_136 : decode cX12_call 136 = .ok (.getfield 363, 3) := by decide +kernel
theorem dX12_call_139 : decode cX12_call 139 = .ok (.iload 4, 2) := by decide +kernel
theorem dX12_call_141 : decode cX12_call 141 = .ok (.iastore, 1) := by decide +kernel
theorem dX12_call_142 : decode cX12_call 142 = .ok (.aload_n 0, 1) := by decide +kernel
theorem dX12_call_143 : decode cX12_call 143 = .ok (.getfield 62, 3) := by decide +kernel
theorem dX12_call_146 : decode cX12_call 146 = .ok (.aload_n 0, 1) := by decide +kernel
theorem dX12_call_147 : decode cX12_call 147 = .ok (.getfield 363, 3) := by decide +kernel
theorem dX12_call_150 : decode cX12_call 150 = .ok (.iload 5, 2) := by decide +kernel
theorem dX12_call_152 : decode cX12_call 152 = .ok (.bipush 10, 2) := by decide +kernel
theorem dX12_call_154 : decode cX12_call 154 = .ok (.idiv, 1) := by decide +kernel
theorem dX12_call_155 : decode cX12_call 155 = .ok (.iastore, 1) := by decide +kernel
theorem dX12_call_156 : decode cX12_call 156 = .ok (.aload_n 0, 1) := by decide +kernel
theorem dX12_call_157 : decode cX12_call 157 = .ok (.getfield 65, 3) := by decide +kernel
theorem dX12_call_160 : decode cX12_call 160 = .ok (.aload_n 0, 1) := by decide +kernel
theorem dX12_call_161 : decode cX12_call 161 = .ok (.getfield 363, 3) := by decide +kernel
theorem dX12_call_164 : decode cX12_call 164 = .ok (.iload 5, 2) := by decide +kernel
theorem dX12_call_166 : decode cX12_call 166 = .ok (.bipush 10, 2) := by decide +kernel
theorem dX12_call_168 : decode cX12_call 168 = .ok (.irem, 1) := by decide +kernel
theorem dX12_call_169 : decode cX12_call 169 = .ok (.iastore, 1) := by decide +kernel
theorem dX12_call_170 : decode cX12_call 170 = .ok (.aload_n 0, 1) := by decide +kernel
theorem dX12_call_171 : decode cX12_call 171 = .ok (.dup, 1) := by decide +kernel
theorem dX12_call_172 : decode cX12_call 172 = .ok (.getfield 363, 3) := by decide +kernel
theorem dX12_call_175 : decode cX12_call 175 = .ok (.iconst 1, 1) := by decide +kernel
theorem dX12_call_176 : decode cX12_call 176 = .ok (.iadd, 1) := by decide +kernel
theorem dX12_call_177 : decode cX12_call 177 = .ok (.putfield 363, 3) := by decide +kernel
theorem dX12_call_180 : decode cX12_call 180 = .ok (.aload_n 0, 1) := by decide +kernel
theorem dX12_call_181 : decode cX12_call 181 = .ok (.getfield 363, 3) := by decide +kernel
theorem dX12_call_184 : decode cX12_call 184 = .ok (.iconst 1, 1) := by decide +kernel
theorem dX12_call_185 : decode cX12_call 185 = .ok (.isub, 1) := by decide +kernel
theorem dX12_call_186 : decode cX12_call 186 = .ok (.ireturn, 1) := by decide +kernel
theorem dX12_isCall_0 : decode cX12_isCall 0 = .ok (.iload_n 1, 1) := by decide +kernel
theorem dX12_isCall_1 : decode cX12_isCall 1 = .ok (.i2l, 1) := by decide +kernel
theorem dX12_isCall_2 : decode cX12_isCall 2 = .ok (.lconst 0, 1) := by decide +kernel
theorem dX12_isCall_3 : decode cX12_isCall 3 = .ok (.aload_n 0, 1) := by decide +kernel
theorem dX12_isCall_4 : decode cX12_isCall 4 = .ok (.getfield 363, 3) := by decide +kernel
theorem dX12_isCall_7 : decode cX12_isCall 7 = .ok (.iconst 1, 1) := by decide +kernel
theorem dX12_isCall_8 : decode cX12_isCall 8 = .ok (.isub, 1) := by decide +kernel
theorem dX12_isCall_9 : decode cX12_isCall 9 = .ok (.i2l, 1) := by decide +kernel
theorem dX12_isCall_10 : decode cX12_isCall 10 = .ok (.invokestatic 138, 3) := by decide +kernel
theorem dX12_isCall_13 : decode cX12_isCall 13 = .ok (.ireturn, 1) := by decide +kernel
theorem dX12_trueMargin_0 : decode cX12_trueMargin 0 = .ok (.aload_n 0, 1) := by decide +kernel
theorem dX12_trueMargin_1 : decode cX12_trueMargin 1 = .ok (.aload_n 0, 1) := by decide +kernel
theorem dX12_trueMargin_2 : decode cX12_trueMargin 2 = .ok (.getfield 53, 3) := by decide +kernel
theorem dX12_trueMargin_5 : decode cX12_trueMargin 5 = .ok (.iload_n 1, 1) := by decide +kernel
theorem dX12_trueMargin_6 : decode cX12_trueMargin 6 = .ok (.iaload, 1) := by decide +kernel
theorem dX12_trueMargin_7 : decode cX12_trueMargin 7 = .ok (.iload_n 2, 1) := by decide +kernel
theorem dX12_trueMargin_8 : decode cX12_trueMargin 8 = .ok (.invokevirtual 332, 3) := by decide +kernel
theorem dX12_trueMargin_11 : decode cX12_trueMargin 11 = .ok (.aload_n 0, 1) := by decide +kernel
theorem dX12_trueMargin_12 : decode cX12_trueMargin 12 = .ok (.aload_n 0, 1) := by decide +kernel
theorem dX12_trueMargin_13 : decode cX12_trueMargin 13 = .ok (.getfield 56, 3) := by decide +kernel
theorem dX12_trueMargin_16 : decode cX12_trueMargin 16 = .ok (.iload_n 1, 1) := by decide +kernel
theorem dX12_trueMargin_17 : decode cX12_trueMargin 17 = .ok (.iaload, 1) := by decide +kernel
theorem dX12_trueMargin_18 : decode cX12_trueMargin 18 = .ok (.iload_n 2, 1) := by decide +kernel
theorem dX12_trueMargin_19 : decode cX12_trueMargin 19 = .ok (.invokevirtual 332, 3) := by decide +kernel
theorem dX12_trueMargin_22 : decode cX12_trueMargin 22 = .ok (.isub, 1) := by decide +kernel
theorem dX12_trueMargin_23 : decode cX12_trueMargin 23 = .ok (.ireturn, 1) := by decide +kernel
theorem dX12_crossed_0 : decode cX12_crossed 0 = .ok (.aload_n 0, 1) := by decide +kernel
theorem dX12_crossed_1 : decode cX12_crossed 1 = .ok (.aload_n 0, 1) := by decide +kernel
theorem dX12_crossed_2 : decode cX12_crossed 2 = .ok (.getfield 62, 3) := by decide +kernel
theorem dX12_crossed_5 : decode cX12_crossed 5 = .ok (.iload_n 1, 1) := by decide +kernel
theorem dX12_crossed_6 : decode cX12_crossed 6 = .ok (.iaload, 1) := by decide +kernel
theorem dX12_crossed_7 : decode cX12_crossed 7 = .ok (.aload_n 0, 1) := by decide +kernel
theorem dX12_crossed_8 : decode cX12_crossed 8 = .ok (.iload_n 2, 1) := by decide +kernel
theorem dX12_crossed_9 : decode cX12_crossed 9 = .ok (.iload_n 3, 1) := by decide +kernel
theorem dX12_crossed_10 : decode cX12_crossed 10 = .ok (.invokevirtual 332, 3) := by decide +kernel
theorem dX12_crossed_13 : decode cX12_crossed 13 = .ok (.invokevirtual 353, 3) := by decide +kernel
theorem dX12_crossed_16 : decode cX12_crossed 16 = .ok (.istore 5, 2) := by decide +kernel
theorem dX12_crossed_18 : decode cX12_crossed 18 = .ok (.iload 4, 2) := by decide +kernel
theorem dX12_crossed_20 : decode cX12_crossed 20 = .ok (.ifCond .eq 17, 3) := by decide +kernel
theorem dX12_crossed_23 : decode cX12_crossed 23 = .ok (.aload_n 0, 1) := by decide +kernel
theorem dX12_crossed_24 : decode cX12_crossed 24 = .ok (.getfield 44, 3) := by decide +kernel
theorem dX12_crossed_27 : decode cX12_crossed 27 = .ok (.aload_n 0, 1) := by decide +kernel
theorem dX12_crossed_28 : decode cX12_crossed 28 = .ok (.getfield 65, 3) := by decide +kernel
theorem dX12_crossed_31 : decode cX12_crossed 31 = .ok (.iload_n 1, 1) := by decide +kernel
theorem dX12_crossed_32 : decode cX12_crossed 32 = .ok (.iaload, 1) := by decide +kernel
theorem dX12_crossed_33 : decode cX12_crossed 33 = .ok (.iaload, 1) := by decide +kernel
theorem dX12_crossed_34 : decode cX12_crossed 34 = .ok (.goto 4, 3) := by decide +kernel
theorem dX12_crossed_37 : decode cX12_crossed 37 = .ok (.iconst 0, 1) := by decide +kernel
theorem dX12_crossed_38 : decode cX12_crossed 38 = .ok (.istore 6, 2) := by decide +kernel
theorem dX12_crossed_40 : decode cX12_crossed 40 = .ok (.aload_n 0, 1) := by decide +kernel
theorem dX12_crossed_41 : decode cX12_crossed 41 = .ok (.getfield 29, 3) := by decide +kernel
theorem dX12_crossed_44 : decode cX12_crossed 44 = .ok (.iload_n 2, 1) := by decide +kernel
theorem dX12_crossed_45 : decode cX12_crossed 45 = .ok (.iaload, 1) := by decide +kernel
theorem dX12_crossed_46 : decode cX12_crossed 46 = .ok (.ifCond .le 11, 3) := by decide +kernel
theorem dX12_crossed_49 : decode cX12_crossed 49 = .ok (.iload 5, 2) := by decide +kernel
theorem dX12_crossed_51 : decode cX12_crossed 51 = .ok (.iload 6, 2) := by decide +kernel
theorem dX12_crossed_53 : decode cX12_crossed 53 = .ok (.iadd, 1) := by decide +kernel
theorem dX12_crossed_54 : decode cX12_crossed 54 = .ok (.goto 8, 3) := by decide +kernel
theorem dX12_crossed_57 : decode cX12_crossed 57 = .ok (.iload 5, 2) := by decide +kernel
theorem dX12_crossed_59 : decode cX12_crossed 59 = .ok (.iload 6, 2) := by decide +kernel
theorem dX12_crossed_61 : decode cX12_crossed 61 = .ok (.isub, 1) := by decide +kernel
theorem dX12_crossed_62 : decode cX12_crossed 62 = .ok (.ireturn, 1) := by decide +kernel
theorem dX12_marginBy_0 : decode cX12_marginBy 0 = .ok (.aload_n 0, 1) := by decide +kernel
theorem dX12_marginBy_1 : decode cX12_marginBy 1 = .ok (.aload_n 0, 1) := by decide +kernel
theorem dX12_marginBy_2 : decode cX12_marginBy 2 = .ok (.getfield 62, 3) := by decide +kernel
theorem dX12_marginBy_5 : decode cX12_marginBy 5 = .ok (.iload_n 1, 1) := by decide +kernel
theorem dX12_marginBy_6 : decode cX12_marginBy 6 = .ok (.iaload, 1) := by decide +kernel
theorem dX12_marginBy_7 : decode cX12_marginBy 7 = .ok (.aload_n 0, 1) := by decide +kernel
theorem dX12_marginBy_8 : decode cX12_marginBy 8 = .ok (.getfield 59, 3) := by decide +kernel
theorem dX12_marginBy_11 : decode cX12_marginBy 11 = .ok (.iload_n 1, 1) := by decide +kernel
theorem dX12_marginBy_12 : decode cX12_marginBy 12 = .ok (.iaload, 1) := by decide +kernel
theorem dX12_marginBy_13 : decode cX12_marginBy 13 = .ok (.invokevirtual 346, 3) := by decide +kernel
theorem dX12_marginBy_16 : decode cX12_marginBy 16 = .ok (.istore_n 3, 1) := by decide +kernel
theorem dX12_marginBy_17 : decode cX12_marginBy 17 = .ok (.iconst 2, 1) := by decide +kernel
theorem dX12_marginBy_18 : decode cX12_marginBy 18 = .ok (.aload_n 0, 1) := by decide +kernel
theorem dX12_marginBy_19 : decode cX12_marginBy 19 = .ok (.getfield 29, 3) := by decide +kernel
theorem dX12_marginBy_22 : decode cX12_marginBy 22 = .ok (.aload_n 0, 1) := by decide +kernel
theorem dX12_marginBy_23 : decode cX12_marginBy 23 = .ok (.getfield 53, 3) := by decide +kernel
theorem dX12_marginBy_26 : decode cX12_marginBy 26 = .ok (.iload_n 1, 1) := by decide +kernel
theorem dX12_marginBy_27 : decode cX12_marginBy 27 = .ok (.iaload, 1) := by decide +kernel
theorem dX12_marginBy_28 : decode cX12_marginBy 28 = .ok (.iaload, 1) := by decide +kernel
theorem dX12_marginBy_29 : decode cX12_marginBy 29 = .ok (.aload_n 0, 1) := by decide +kernel
theorem dX12_marginBy_30 : decode cX12_marginBy 30 = .ok (.getfield 29, 3) := by decide +kernel
theorem dX12_marginBy_33 : decode cX12_marginBy 33 = .ok (.aload_n 0, 1) := by decide +kernel
theorem dX12_marginBy_34 : decode cX12_marginBy 34 = .ok (.getfield 56, 3) := by decide +kernel
theorem dX12_marginBy_37 : decode cX12_marginBy 37 = .ok (.iload_n 1, 1) := by decide +kernel
theorem dX12_marginBy_38 : decode cX12_marginBy 38 = .ok (.iaload, 1) := by decide +kernel
theorem dX12_marginBy_39 : decode cX12_marginBy 39 = .ok (.iaload, 1) := by decide +kernel
theorem dX12_marginBy_40 : decode cX12_marginBy 40 = .ok (.isub, 1) := by decide +kernel
theorem dX12_marginBy_41 : decode cX12_marginBy 41 = .ok (.imul, 1) := by decide +kernel
theorem dX12_marginBy_42 : decode cX12_marginBy 42 = .ok (.istore 4, 2) := by decide +kernel
theorem dX12_marginBy_44 : decode cX12_marginBy 44 = .ok (.iload_n 2, 1) := by decide +kernel
theorem dX12_marginBy_45 : decode cX12_marginBy 45 = .ok (.tableswitch 126 1 5 #[35, 68, 68, 50, 96], 35) := by decide +kernel
theorem dX12_marginBy_80 : decode cX12_marginBy 80 = .ok (.aload_n 0, 1) := by decide +kernel
theorem dX12_marginBy_81 : decode cX12_marginBy 81 = .ok (.iload_n 1, 1) := by decide +kernel
theorem dX12_marginBy_82 : decode cX12_marginBy 82 = .ok (.aload_n 0, 1) := by decide +kernel
theorem dX12_marginBy_83 : decode cX12_marginBy 83 = .ok (.getfield 59, 3) := by decide +kernel
theorem dX12_marginBy_86 : decode cX12_marginBy 86 = .ok (.iload_n 1, 1) := by decide +kernel
theorem dX12_marginBy_87 : decode cX12_marginBy 87 = .ok (.iaload, 1) := by decide +kernel
theorem dX12_marginBy_88 : decode cX12_marginBy 88 = .ok (.invokevirtual 366, 3) := by decide +kernel
theorem dX12_marginBy_91 : decode cX12_marginBy 91 = .ok (.iload 4, 2) := by decide +kernel
theorem dX12_marginBy_93 : decode cX12_marginBy 93 = .ok (.iadd, 1) := by decide +kernel
theorem dX12_marginBy_94 : decode cX12_marginBy 94 = .ok (.ireturn, 1) := by decide +kernel
theorem dX12_marginBy_95 : decode cX12_marginBy 95 = .ok (.aload_n 0, 1) := by decide +kernel
theorem dX12_marginBy_96 : decode cX12_marginBy 96 = .ok (.iload_n 1, 1) := by decide +kernel
theorem dX12_marginBy_97 : decode cX12_marginBy 97 = .ok (.aload_n 0, 1) := by decide +kernel
theorem dX12_marginBy_98 : decode cX12_marginBy 98 = .ok (.getfield 59, 3) := by decide +kernel
theorem dX12_marginBy_101 : decode cX12_marginBy 101 = .ok (.iload_n 1, 1) := by decide +kernel
theorem dX12_marginBy_102 : decode cX12_marginBy 102 = .ok (.iaload, 1) := by decide +kernel
theorem dX12_marginBy_103 : decode cX12_marginBy 103 = .ok (.invokevirtual 366, 3) := by decide +kernel
theorem dX12_marginBy_106 : decode cX12_marginBy 106 = .ok (.iload 4, 2) := by decide +kernel
theorem dX12_marginBy_108 : decode cX12_marginBy 108 = .ok (.iadd, 1) := by decide +kernel
theorem dX12_marginBy_109 : decode cX12_marginBy 109 = .ok (.bipush 10, 2) := by decide +kernel
theorem dX12_marginBy_111 : decode cX12_marginBy 111 = .ok (.isub, 1) := by decide +kernel
theorem dX12_marginBy_112 : decode cX12_marginBy 112 = .ok (.ireturn, 1) := by decide +kernel
theorem dX12_marginBy_113 : decode cX12_marginBy 113 = .ok (.aload_n 0, 1) := by decide +kernel
theorem dX12_marginBy_114 : decode cX12_marginBy 114 = .ok (.iload_n 1, 1) := by decide +kernel
theorem dX12_marginBy_115 : decode cX12_marginBy 115 = .ok (.aload_n 0, 1) := by decide +kernel
theorem dX12_marginBy_116 : decode cX12_marginBy 116 = .ok (.getfield 53, 3) := by decide +kernel
theorem dX12_marginBy_119 : decode cX12_marginBy 119 = .ok (.iload_n 1, 1) := by decide +kernel
theorem dX12_marginBy_120 : decode cX12_marginBy 120 = .ok (.iaload, 1) := by decide +kernel
theorem dX12_marginBy_121 : decode cX12_marginBy 121 = .ok (.iload_n 3, 1) := by decide +kernel
theorem dX12_marginBy_122 : decode cX12_marginBy 122 = .ok (.iconst 1, 1) := by decide +kernel
theorem dX12_marginBy_123 : decode cX12_marginBy 123 = .ok (.invokevirtual 369, 3) := by decide +kernel
theorem dX12_marginBy_126 : decode cX12_marginBy 126 = .ok (.aload_n 0, 1) := by decide +kernel
theorem dX12_marginBy_127 : decode cX12_marginBy 127 = .ok (.iload_n 1, 1) := by decide +kernel
theorem dX12_marginBy_128 : decode cX12_marginBy 128 = .ok (.aload_n 0, 1) := by decide +kernel
theorem dX12_marginBy_129 : decode cX12_marginBy 129 = .ok (.getfield 56, 3) := by decide +kernel
theorem dX12_marginBy_132 : decode cX12_marginBy 132 = .ok (.iload_n 1, 1) := by decide +kernel
theorem dX12_marginBy_133 : decode cX12_marginBy 133 = .ok (.iaload, 1) := by decide +kernel
theorem dX12_marginBy_134 : decode cX12_marginBy 134 = .ok (.iload_n 3, 1) := by decide +kernel
theorem dX12_marginBy_135 : decode cX12_marginBy 135 = .ok (.iconst 1, 1) := by decide +kernel
theorem dX12_marginBy_136 : decode cX12_marginBy 136 = .ok (.invokevirtual 369, 3) := by decide +kernel
theorem dX12_marginBy_139 : decode cX12_marginBy 139 = .ok (.isub, 1) := by decide +kernel
theorem dX12_marginBy_140 : decode cX12_marginBy 140 = .ok (.ireturn, 1) := by decide +kernel
theorem dX12_marginBy_141 : decode cX12_marginBy 141 = .ok (.aload_n 0, 1) := by decide +kernel
theorem dX12_marginBy_142 : decode cX12_marginBy 142 = .ok (.iload_n 1, 1) := by decide +kernel
theorem dX12_marginBy_143 : decode cX12_marginBy 143 = .ok (.aload_n 0, 1) := by decide +kernel
theorem dX12_marginBy_144 : decode cX12_marginBy 144 = .ok (.getfield 53, 3) := by decide +kernel
theorem dX12_marginBy_147 : decode cX12_marginBy 147 = .ok (.iload_n 1, 1) := by decide +kernel
theorem dX12_marginBy_148 : decode cX12_marginBy 148 = .ok (.iaload, 1) := by decide +kernel
theorem dX12_marginBy_149 : decode cX12_marginBy 149 = .ok (.iload_n 3, 1) := by decide +kernel
theorem dX12_marginBy_150 : decode cX12_marginBy 150 = .ok (.iconst 0, 1) := by decide +kernel
theorem dX12_marginBy_151 : decode cX12_marginBy 151 = .ok (.invokevirtual 369, 3) := by decide +kernel
theorem dX12_marginBy_154 : decode cX12_marginBy 154 = .ok (.aload_n 0, 1) := by decide +kernel
theorem dX12_marginBy_155 : decode cX12_marginBy 155 = .ok (.iload_n 1, 1) := by decide +kernel
theorem dX12_marginBy_156 : decode cX12_marginBy 156 = .ok (.aload_n 0, 1) := by decide +kernel
theorem dX12_marginBy_157 : decode cX12_marginBy 157 = .ok (.getfield 56, 3) := by decide +kernel
theorem dX12_marginBy_160 : decode cX12_marginBy 160 = .ok (.iload_n 1, 1) := by decide +kernel
theorem dX12_marginBy_161 : decode cX12_marginBy 161 = .ok (.iaload, 1) := by decide +kernel
theorem dX12_marginBy_162 : decode cX12_marginBy 162 = .ok (.iload_n 3, 1) := by decide +kernel
theorem dX12_marginBy_163 : decode cX12_marginBy 163 = .ok (.iconst 0, 1) := by decide +kernel
theorem dX12_marginBy_164 : decode cX12_marginBy 164 = .ok (.invokevirtual 369, 3) := by decide +kernel
theorem dX12_marginBy_167 : decode cX12_marginBy 167 = .ok (.isub, 1) := by decide +kernel
theorem dX12_marginBy_168 : decode cX12_marginBy 168 = .ok (.iconst 2, 1) := by decide +kernel
theorem dX12_marginBy_169 : decode cX12_marginBy 169 = .ok (.isub, 1) := by decide +kernel
theorem dX12_marginBy_170 : decode cX12_marginBy 170 = .ok (.ireturn, 1) := by decide +kernel
theorem dX12_marginBy_171 : decode cX12_marginBy 171 = .ok (.aload_n 0, 1) := by decide +kernel
theorem dX12_marginBy_172 : decode cX12_marginBy 172 = .ok (.iload_n 1, 1) := by decide +kernel
theorem dX12_marginBy_173 : decode cX12_marginBy 173 = .ok (.aload_n 0, 1) := by decide +kernel
theorem dX12_marginBy_174 : decode cX12_marginBy 174 = .ok (.getfield 59, 3) := by decide +kernel
theorem dX12_marginBy_177 : decode cX12_marginBy 177 = .ok (.iload_n 1, 1) := by decide +kernel
theorem dX12_marginBy_178 : decode cX12_marginBy 178 = .ok (.iaload, 1) := by decide +kernel
theorem dX12_marginBy_179 : decode cX12_marginBy 179 = .ok (.invokevirtual 366, 3) := by decide +kernel
theorem dX12_marginBy_182 : decode cX12_marginBy 182 = .ok (.ireturn, 1) := by decide +kernel
theorem dX12_nearOf_0 : decode cX12_nearOf 0 = .ok (.aload_n 0, 1) := by decide +kernel
theorem dX12_nearOf_1 : decode cX12_nearOf 1 = .ok (.aload_n 0, 1) := by decide +kernel
theorem dX12_nearOf_2 : decode cX12_nearOf 2 = .ok (.getfield 303, 3) := by decide +kernel
theorem dX12_nearOf_5 : decode cX12_nearOf 5 = .ok (.aload_n 0, 1) := by decide +kernel
theorem dX12_nearOf_6 : decode cX12_nearOf 6 = .ok (.getfield 53, 3) := by decide +kernel
theorem dX12_nearOf_9 : decode cX12_nearOf 9 = .ok (.iload_n 1, 1) := by decide +kernel
theorem dX12_nearOf_10 : decode cX12_nearOf 10 = .ok (.iaload, 1) := by decide +kernel
theorem dX12_nearOf_11 : decode cX12_nearOf 11 = .ok (.aload_n 0, 1) := by decide +kernel
theorem dX12_nearOf_12 : decode cX12_nearOf 12 = .ok (.aload_n 0, 1) := by decide +kernel
theorem dX12_nearOf_13 : decode cX12_nearOf 13 = .ok (.getfield 53, 3) := by decide +kernel
theorem dX12_nearOf_16 : decode cX12_nearOf 16 = .ok (.iload_n 1, 1) := by decide +kernel
theorem dX12_nearOf_17 : decode cX12_nearOf 17 = .ok (.iaload, 1) := by decide +kernel
theorem dX12_nearOf_18 : decode cX12_nearOf 18 = .ok (.aload_n 0, 1) := by decide +kernel
theorem dX12_nearOf_19 : decode cX12_nearOf 19 = .ok (.getfield 59, 3) := by decide +kernel
theorem dX12_nearOf_22 : decode cX12_nearOf 22 = .ok (.iload_n 1, 1) := by decide +kernel
theorem dX12_nearOf_23 : decode cX12_nearOf 23 = .ok (.iaload, 1) := by decide +kernel
theorem dX12_nearOf_24 : decode cX12_nearOf 24 = .ok (.invokevirtual 325, 3) := by decide +kernel
theorem dX12_nearOf_27 : decode cX12_nearOf 27 = .ok (.aload_n 0, 1) := by decide +kernel
theorem dX12_nearOf_28 : decode cX12_nearOf 28 = .ok (.getfield 59, 3) := by decide +kernel
theorem dX12_nearOf_31 : decode cX12_nearOf 31 = .ok (.iload_n 1, 1) := by decide +kernel
theorem dX12_nearOf_32 : decode cX12_nearOf 32 = .ok (.iaload, 1) := by decide +kernel
theorem dX12_nearOf_33 : decode cX12_nearOf 33 = .ok (.iconst 1, 1) := by decide +kernel
theorem dX12_nearOf_34 : decode cX12_nearOf 34 = .ok (.invokevirtual 299, 3) := by decide +kernel
theorem dX12_nearOf_37 : decode cX12_nearOf 37 = .ok (.istore_n 2, 1) := by decide +kernel
theorem dX12_nearOf_38 : decode cX12_nearOf 38 = .ok (.iload_n 2, 1) := by decide +kernel
theorem dX12_nearOf_39 : decode cX12_nearOf 39 = .ok (.ifCond .ge 7, 3) := by decide +kernel
theorem dX12_nearOf_42 : decode cX12_nearOf 42 = .ok (.iconst 0, 1) := by decide +kernel
theorem dX12_nearOf_43 : decode cX12_nearOf 43 = .ok (.goto 17, 3) := by decide +kernel
theorem dX12_nearOf_46 : decode cX12_nearOf 46 = .ok (.iload_n 2, 1) := by decide +kernel
theorem dX12_nearOf_47 : decode cX12_nearOf 47 = .ok (.sipush 999, 3) := by decide +kernel
theorem dX12_nearOf_50 : decode cX12_nearOf 50 = .ok (.if_icmp .le 9, 3) := by decide +kernel
theorem dX12_nearOf_53 : decode cX12_nearOf 53 = .ok (.sipush 999, 3) := by decide +kernel
theorem dX12_nearOf_56 : decode cX12_nearOf 56 = .ok (.goto 4, 3) := by decide +kernel
theorem dX12_nearOf_59 : decode cX12_nearOf 59 = .ok (.iload_n 2, 1) := by decide +kernel
theorem dX12_nearOf_60 : decode cX12_nearOf 60 = .ok (.ireturn, 1) := by decide +kernel
theorem dX12_bandBy_0 : decode cX12_bandBy 0 = .ok (.iload_n 2, 1) := by decide +kernel
theorem dX12_bandBy_1 : decode cX12_bandBy 1 = .ok (.tableswitch 43 2 5 #[31, 33, 41, 31], 31) := by decide +kernel
theorem dX12_bandBy_32 : decode cX12_bandBy 32 = .ok (.iconst 1, 1) := by decide +kernel
theorem dX12_bandBy_33 : decode cX12_bandBy 33 = .ok (.ireturn, 1) := by decide +kernel
theorem dX12_bandBy_34 : decode cX12_bandBy 34 = .ok (.iconst 1, 1) := by decide +kernel
theorem dX12_bandBy_35 : decode cX12_bandBy 35 = .ok (.aload_n 0, 1) := by decide +kernel
theorem dX12_bandBy_36 : decode cX12_bandBy 36 = .ok (.iload_n 1, 1) := by decide +kernel
theorem dX12_bandBy_37 : decode cX12_bandBy 37 = .ok (.invokevirtual 373, 3) := by decide +kernel
theorem dX12_bandBy_40 : decode cX12_bandBy 40 = .ok (.iadd, 1) := by decide +kernel
theorem dX12_bandBy_41 : decode cX12_bandBy 41 = .ok (.ireturn, 1) := by decide +kernel
theorem dX12_bandBy_42 : decode cX12_bandBy 42 = .ok (.iconst 3, 1) := by decide +kernel
theorem dX12_bandBy_43 : decode cX12_bandBy 43 = .ok (.ireturn, 1) := by decide +kernel
theorem dX12_bandBy_44 : decode cX12_bandBy 44 = .ok (.iconst 0, 1) := by decide +kernel
theorem dX12_bandBy_45 : decode cX12_bandBy 45 = .ok (.ireturn, 1) := by decide +kernel
theorem dX12_isAhead_0 : decode cX12_isAhead 0 = .ok (.aload_n 0, 1) := by decide +kernel
theorem dX12_isAhead_1 : decode cX12_isAhead 1 = .ok (.iload_n 1, 1) := by decide +kernel
theorem dX12_isAhead_2 : decode cX12_isAhead 2 = .ok (.iload_n 2, 1) := by decide +kernel
theorem dX12_isAhead_3 : decode cX12_isAhead 3 = .ok (.invokevirtual 376, 3) := by decide +kernel
theorem dX12_isAhead_6 : decode cX12_isAhead 6 = .ok (.aload_n 0, 1) := by decide +kernel
theorem dX12_isAhead_7 : decode cX12_isAhead 7 = .ok (.iload_n 1, 1) := by decide +kernel
theorem dX12_isAhead_8 : decode cX12_isAhead 8 = .ok (.iload_n 2, 1) := by decide +kernel
theorem dX12_isAhead_9 : decode cX12_isAhead 9 = .ok (.invokevirtual 379, 3) := by decide +kernel
theorem dX12_isAhead_12 : decode cX12_isAhead 12 = .ok (.if_icmp .le 7, 3) := by decide +kernel
theorem dX12_isAhead_15 : decode cX12_isAhead 15 = .ok (.iconst 1, 1) := by decide +kernel
theorem dX12_isAhead_16 : decode cX12_isAhead 16 = .ok (.goto 4, 3) := by decide +kernel
theorem dX12_isAhead_19 : decode cX12_isAhead 19 = .ok (.iconst 0, 1) := by decide +kernel
theorem dX12_isAhead_20 : decode cX12_isAhead 20 = .ok (.ireturn, 1) := by decide +kernel
theorem dX12_isOffside_0 : decode cX12_isOffside 0 = .ok (.aload_n 0, 1) := by decide +kernel
theorem dX12_isOffside_1 : decode cX12_isOffside 1 = .ok (.iload_n 1, 1) := by decide +kernel
theorem dX12_isOffside_2 : decode cX12_isOffside 2 = .ok (.iload_n 2, 1) := by decide +kernel
theorem dX12_isOffside_3 : decode cX12_isOffside 3 = .ok (.invokevirtual 382, 3) := by decide +kernel
theorem dX12_isOffside_6 : decode cX12_isOffside 6 = .ok (.ifCond .eq 47, 3) := by decide +kernel
theorem dX12_isOffside_9 : decode cX12_isOffside 9 = .ok (.aload_n 0, 1) := by decide +kernel
theorem dX12_isOffside_10 : decode cX12_isOffside 10 = .ok (.aload_n 0, 1) := by decide +kernel
theorem dX12_isOffside_11 : decode cX12_isOffside 11 = .ok (.getfield 303, 3) := by decide +kernel
theorem dX12_isOffside_14 : decode cX12_isOffside 14 = .ok (.aload_n 0, 1) := by decide +kernel
theorem dX12_isOffside_15 : decode cX12_isOffside 15 = .ok (.getfield 53, 3) := by decide +kernel
theorem dX12_isOffside_18 : decode cX12_isOffside 18 = .ok (.iload_n 1, 1) := by decide +kernel
theorem dX12_isOffside_19 : decode cX12_isOffside 19 = .ok (.iaload, 1) := by decide +kernel
theorem dX12_isOffside_20 : decode cX12_isOffside 20 = .ok (.aload_n 0, 1) := by decide +kernel
theorem dX12_isOffside_21 : decode cX12_isOffside 21 = .ok (.aload_n 0, 1) := by decide +kernel
theorem dX12_isOffside_22 : decode cX12_isOffside 22 = .ok (.getfield 53, 3) := by decide +kernel
theorem dX12_isOffside_25 : decode cX12_isOffside 25 = .ok (.iload_n 1, 1) := by decide +kernel
theorem dX12_isOffside_26 : decode cX12_isOffside 26 = .ok (.iaload, 1) := by decide +kernel
theorem dX12_isOffside_27 : decode cX12_isOffside 27 = .ok (.aload_n 0, 1) := by decide +kernel
theorem dX12_isOffside_28 : decode cX12_isOffside 28 = .ok (.getfield 59, 3) := by decide +kernel
theorem dX12_isOffside_31 : decode cX12_isOffside 31 = .ok (.iload_n 1, 1) := by decide +kernel
theorem dX12_isOffside_32 : decode cX12_isOffside 32 = .ok (.iaload, 1) := by decide +kernel
theorem dX12_isOffside_33 : decode cX12_isOffside 33 = .ok (.invokevirtual 325, 3) := by decide +kernel
theorem dX12_isOffside_36 : decode cX12_isOffside 36 = .ok (.aload_n 0, 1) := by decide +kernel
theorem dX12_isOffside_37 : decode cX12_isOffside 37 = .ok (.getfield 59, 3) := by decide +kernel
theorem dX12_isOffside_40 : decode cX12_isOffside 40 = .ok (.iload_n 1, 1) := by decide +kernel
theorem dX12_isOffside_41 : decode cX12_isOffside 41 = .ok (.iaload, 1) := by decide +kernel
theorem dX12_isOffside_42 : decode cX12_isOffside 42 = .ok (.iconst 2, 1) := by decide +kernel
theorem dX12_isOffside_43 : decode cX12_isOffside 43 = .ok (.invokevirtual 299, 3) := by decide +kernel
theorem dX12_isOffside_46 : decode cX12_isOffside 46 = .ok (.ifCond .eq 7, 3) := by decide +kernel
theorem dX12_isOffside_49 : decode cX12_isOffside 49 = .ok (.iconst 1, 1) := by decide +kernel
theorem dX12_isOffside_50 : decode cX12_isOffside 50 = .ok (.goto 4, 3) := by decide +kernel
theorem dX12_isOffside_53 : decode cX12_isOffside 53 = .ok (.iconst 0, 1) := by decide +kernel
theorem dX12_isOffside_54 : decode cX12_isOffside 54 = .ok (.ireturn, 1) := by decide +kernel
theorem dX12_spreadOf_0 : decode cX12_spreadOf 0 = .ok (.aload_n 0, 1) := by decide +kernel
theorem dX12_spreadOf_1 : decode cX12_spreadOf 1 = .ok (.getfield 50, 3) := by decide +kernel
theorem dX12_spreadOf_4 : decode cX12_spreadOf 4 = .ok (.iload_n 1, 1) := by decide +kernel
theorem dX12_spreadOf_5 : decode cX12_spreadOf 5 = .ok (.iaload, 1) := by decide +kernel
theorem dX12_spreadOf_6 : decode cX12_spreadOf 6 = .ok (.iconst 2, 1) := by decide +kernel
theorem dX12_spreadOf_7 : decode cX12_spreadOf 7 = .ok (.if_icmp .eq 13, 3) := by decide +kernel
theorem dX12_spreadOf_10 : decode cX12_spreadOf 10 = .ok (.aload_n 0, 1) := by decide +kernel
theorem dX12_spreadOf_11 : decode cX12_spreadOf 11 = .ok (.getfield 50, 3) := by decide +kernel
theorem dX12_spreadOf_14 : decode cX12_spreadOf 14 = .ok (.iload_n 1, 1) := by decide +kernel
theorem dX12_spreadOf_15 : decode cX12_spreadOf 15 = .ok (.iaload, 1) := by decide +kernel
theorem dX12_spreadOf_16 : decode cX12_spreadOf 16 = .ok (.iconst 3, 1) := by decide +kernel
theorem dX12_spreadOf_17 : decode cX12_spreadOf 17 = .ok (.if_icmp .ne 17, 3) := by decide +kernel
theorem dX12_spreadOf_20 : decode cX12_spreadOf 20 = .ok (.aload_n 0, 1) := by decide +kernel
theorem dX12_spreadOf_21 : decode cX12_spreadOf 21 = .ok (.getfield 47, 3) := by decide +kernel
theorem dX12_spreadOf_24 : decode cX12_spreadOf 24 = .ok (.aload_n 0, 1) := by decide +kernel
theorem dX12_spreadOf_25 : decode cX12_spreadOf 25 = .ok (.getfield 65, 3) := by decide +kernel
theorem dX12_spreadOf_28 : decode cX12_spreadOf 28 = .ok (.iload_n 1, 1) := by decide +kernel
theorem dX12_spreadOf_29 : decode cX12_spreadOf 29 = .ok (.iaload, 1) := by decide +kernel
theorem dX12_spreadOf_30 : decode cX12_spreadOf 30 = .ok (.iaload, 1) := by decide +kernel
theorem dX12_spreadOf_31 : decode cX12_spreadOf 31 = .ok (.goto 4, 3) := by decide +kernel
theorem dX12_spreadOf_34 : decode cX12_spreadOf 34 = .ok (.iconst 0, 1) := by decide +kernel
theorem dX12_spreadOf_35 : decode cX12_spreadOf 35 = .ok (.ireturn, 1) := by decide +kernel
theorem dX12_waysOf_0 : decode cX12_waysOf 0 = .ok (.aload_n 0, 1) := by decide +kernel
theorem dX12_waysOf_1 : decode cX12_waysOf 1 = .ok (.iload_n 1, 1) := by decide +kernel
theorem dX12_waysOf_2 : decode cX12_waysOf 2 = .ok (.aload_n 0, 1) := by decide +kernel
theorem dX12_waysOf_3 : decode cX12_waysOf 3 = .ok (.getfield 50, 3) := by decide +kernel
theorem dX12_waysOf_6 : decode cX12_waysOf 6 = .ok (.iload_n 1, 1) := by decide +kernel
theorem dX12_waysOf_7 : decode cX12_waysOf 7 = .ok (.iaload, 1) := by decide +kernel
theorem dX12_waysOf_8 : decode cX12_waysOf 8 = .ok (.invokevirtual 376, 3) := by decide +kernel
theorem dX12_waysOf_11 : decode cX12_waysOf 11 = .ok (.istore_n 2, 1) := by decide +kernel
theorem dX12_waysOf_12 : decode cX12_waysOf 12 = .ok (.aload_n 0, 1) := by decide +kernel
theorem dX12_waysOf_13 : decode cX12_waysOf 13 = .ok (.iload_n 1, 1) := by decide +kernel
theorem dX12_waysOf_14 : decode cX12_waysOf 14 = .ok (.aload_n 0, 1) := by decide +kernel
theorem dX12_waysOf_15 : decode cX12_waysOf 15 = .ok (.getfield 50, 3) := by decide +kernel
theorem dX12_waysOf_18 : decode cX12_waysOf 18 = .ok (.iload_n 1, 1) := by decide +kernel
theorem dX12_waysOf_19 : decode cX12_waysOf 19 = .ok (.iaload, 1) := by decide +kernel
theorem dX12_waysOf_20 : decode cX12_waysOf 20 = .ok (.invokevirtual 379, 3) := by decide +kernel
theorem dX12_waysOf_23 : decode cX12_waysOf 23 = .ok (.istore_n 3, 1) := by decide +kernel
theorem dX12_waysOf_24 : decode cX12_waysOf 24 = .ok (.aload_n 0, 1) := by decide +kernel
theorem dX12_waysOf_25 : decode cX12_waysOf 25 = .ok (.iload_n 1, 1) := by decide +kernel
theorem dX12_waysOf_26 : decode cX12_waysOf 26 = .ok (.invokevirtual 386, 3) := by decide +kernel
theorem dX12_waysOf_29 : decode cX12_waysOf 29 = .ok (.istore 4, 2) := by decide +kernel
theorem dX12_waysOf_31 : decode cX12_waysOf 31 = .ok (.iconst 0, 1) := by decide +kernel
theorem dX12_waysOf_32 : decode cX12_waysOf 32 = .ok (.istore 5, 2) := by decide +kernel
theorem dX12_waysOf_34 : decode cX12_waysOf 34 = .ok (.iload 4, 2) := by decide +kernel
theorem dX12_waysOf_36 : decode cX12_waysOf 36 = .ok (.ineg, 1) := by decide +kernel
theorem dX12_waysOf_37 : decode cX12_waysOf 37 = .ok (.istore 6, 2) := by decide +kernel
theorem dX12_waysOf_39 : decode cX12_waysOf 39 = .ok (.iload 6, 2) := by decide +kernel
theorem dX12_waysOf_41 : decode cX12_waysOf 41 = .ok (.iload 4, 2) := by decide +kernel
theorem dX12_waysOf_43 : decode cX12_waysOf 43 = .ok (.if_icmp .gt 48, 3) := by decide +kernel
theorem dX12_waysOf_46 : decode cX12_waysOf 46 = .ok (.iload 4, 2) := by decide +kernel
theorem dX12_waysOf_48 : decode cX12_waysOf 48 = .ok (.ineg, 1) := by decide +kernel
theorem dX12_waysOf_49 : decode cX12_waysOf 49 = .ok (.istore 7, 2) := by decide +kernel
theorem dX12_waysOf_51 : decode cX12_waysOf 51 = .ok (.iload 7, 2) := by decide +kernel
theorem dX12_waysOf_53 : decode cX12_waysOf 53 = .ok (.iload 4, 2) := by decide +kernel
theorem dX12_waysOf_55 : decode cX12_waysOf 55 = .ok (.if_icmp .gt 30, 3) := by decide +kernel
theorem dX12_waysOf_58 : decode cX12_waysOf 58 = .ok (.iload 5, 2) := by decide +kernel
theorem dX12_waysOf_60 : decode cX12_waysOf 60 = .ok (.iload_n 2, 1) := by decide +kernel
theorem dX12_waysOf_61 : decode cX12_waysOf 61 = .ok (.iload 6, 2) := by decide +kernel
theorem dX12_waysOf_63 : decode cX12_waysOf 63 = .ok (.iadd, 1) := by decide +kernel
theorem dX12_waysOf_64 : decode cX12_waysOf 64 = .ok (.iload 7, 2) := by decide +kernel
theorem dX12_waysOf_66 : decode cX12_waysOf 66 = .ok (.isub, 1) := by decide +kernel
theorem dX12_waysOf_67 : decode cX12_waysOf 67 = .ok (.iload_n 3, 1) := by decide +kernel
theorem dX12_waysOf_68 : decode cX12_waysOf 68 = .ok (.if_icmp .le 7, 3) := by decide +kernel
theorem dX12_waysOf_71 : decode cX12_waysOf 71 = .ok (.iconst 1, 1) := by decide +kernel
theorem dX12_waysOf_72 : decode cX12_waysOf 72 = .ok (.goto 4, 3) := by decide +kernel
theorem dX12_waysOf_75 : decode cX12_waysOf 75 = .ok (.iconst 0, 1) := by decide +kernel
theorem dX12_waysOf_76 : decode cX12_waysOf 76 = .ok (.iadd, 1) := by decide +kernel
theorem dX12_waysOf_77 : decode cX12_waysOf 77 = .ok (.istore 5, 2) := by decide +kernel
theorem dX12_waysOf_79 : decode cX12_waysOf 79 = .ok (.iinc 7 1, 3) := by decide +kernel
theorem dX12_waysOf_82 : decode cX12_waysOf 82 = .ok (.goto (-31), 3) := by decide +kernel
theorem dX12_waysOf_85 : decode cX12_waysOf 85 = .ok (.iinc 6 1, 3) := by decide +kernel
theorem dX12_waysOf_88 : decode cX12_waysOf 88 = .ok (.goto (-49), 3) := by decide +kernel
theorem dX12_waysOf_91 : decode cX12_waysOf 91 = .ok (.iload 5, 2) := by decide +kernel
theorem dX12_waysOf_93 : decode cX12_waysOf 93 = .ok (.ireturn, 1) := by decide +kernel
theorem dX12_turnsOf_0 : decode cX12_turnsOf 0 = .ok (.aload_n 0, 1) := by decide +kernel
theorem dX12_turnsOf_1 : decode cX12_turnsOf 1 = .ok (.getfield 247, 3) := by decide +kernel
theorem dX12_turnsOf_4 : decode cX12_turnsOf 4 = .ok (.istore_n 2, 1) := by decide +kernel
theorem dX12_turnsOf_5 : decode cX12_turnsOf 5 = .ok (.iconst (-1), 1) := by decide +kernel
theorem dX12_turnsOf_6 : decode cX12_turnsOf 6 = .ok (.istore_n 3, 1) := by decide +kernel
theorem dX12_turnsOf_7 : decode cX12_turnsOf 7 = .ok (.iconst 0, 1) := by decide +kernel
theorem dX12_turnsOf_8 : decode cX12_turnsOf 8 = .ok (.istore 4, 2) := by decide +kernel
theorem dX12_turnsOf_10 : decode cX12_turnsOf 10 = .ok (.iload 4, 2) := by decide +kernel
theorem dX12_turnsOf_12 : decode cX12_turnsOf 12 = .ok (.sipush 999, 3) := by decide +kernel
theorem dX12_turnsOf_15 : decode cX12_turnsOf 15 = .ok (.if_icmp .gt 37, 3) := by decide +kernel
theorem dX12_turnsOf_18 : decode cX12_turnsOf 18 = .ok (.iload_n 3, 1) := by decide +kernel
theorem dX12_turnsOf_19 : decode cX12_turnsOf 19 = .ok (.iconst (-1), 1) := by decide +kernel
theorem dX12_turnsOf_20 : decode cX12_turnsOf 20 = .ok (.if_icmp .ne 32, 3) := by decide +kernel
theorem dX12_turnsOf_23 : decode cX12_turnsOf 23 = .ok (.aload_n 0, 1) := by decide +kernel
theorem dX12_turnsOf_24 : decode cX12_turnsOf 24 = .ok (.iload 4, 2) := by decide +kernel
theorem dX12_turnsOf_26 : decode cX12_turnsOf 26 = .ok (.putfield 247, 3) := by decide +kernel
theorem dX12_turnsOf_29 : decode cX12_turnsOf 29 = .ok (.aload_n 0, 1) := by decide +kernel
theorem dX12_turnsOf_30 : decode cX12_turnsOf 30 = .ok (.iload_n 1, 1) := by decide +kernel
theorem dX12_turnsOf_31 : decode cX12_turnsOf 31 = .ok (.aload_n 0, 1) := by decide +kernel
theorem dX12_turnsOf_32 : decode cX12_turnsOf 32 = .ok (.getfield 50, 3) := by decide +kernel
theorem dX12_turnsOf_35 : decode cX12_turnsOf 35 = .ok (.iload_n 1, 1) := by decide +kernel
theorem dX12_turnsOf_36 : decode cX12_turnsOf 36 = .ok (.iaload, 1) := by decide +kernel
theorem dX12_turnsOf_37 : decode cX12_turnsOf 37 = .ok (.invokevirtual 382, 3) := by decide +kernel
theorem dX12_turnsOf_40 : decode cX12_turnsOf 40 = .ok (.ifCond .ne 6, 3) := by decide +kernel
theorem dX12_turnsOf_43 : decode cX12_turnsOf 43 = .ok (.iload 4, 2) := by decide +kernel
theorem dX12_turnsOf_45 : decode cX12_turnsOf 45 = .ok (.istore_n 3, 1) := by decide +kernel
theorem dX12_turnsOf_46 : decode cX12_turnsOf 46 = .ok (.iinc 4 1, 3) := by decide +kernel
theorem dX12_turnsOf_49 : decode cX12_turnsOf 49 = .ok (.goto (-39), 3) := by decide +kernel
theorem dX12_turnsOf_52 : decode cX12_turnsOf 52 = .ok (.aload_n 0, 1) := by decide +kernel
theorem dX12_turnsOf_53 : decode cX12_turnsOf 53 = .ok (.iload_n 2, 1) := by decide +kernel
theorem dX12_turnsOf_54 : decode cX12_turnsOf 54 = .ok (.putfield 247, 3) := by decide +kernel
theorem dX12_turnsOf_57 : decode cX12_turnsOf 57 = .ok (.iload_n 3, 1) := by decide +kernel
theorem dX12_turnsOf_58 : decode cX12_turnsOf 58 = .ok (.ireturn, 1) := by decide +kernel
theorem dX12_told_0 : decode cX12_told 0 = .ok (.aload_n 0, 1) := by decide +kernel
theorem dX12_told_1 : decode cX12_told 1 = .ok (.iload_n 1, 1) := by decide +kernel
theorem dX12_told_2 : decode cX12_told 2 = .ok (.invokevirtual 389, 3) := by decide +kernel
theorem dX12_told_5 : decode cX12_told 5 = .ok (.ifCond .ne 7, 3) := by decide +kernel
theorem dX12_told_8 : decode cX12_told 8 = .ok (.ldc2_w 311, 3) := by decide +kernel
theorem dX12_told_11 : decode cX12_told 11 = .ok (.lreturn, 1) := by decide +kernel
theorem dX12_told_12 : decode cX12_told 12 = .ok (.aload_n 0, 1) := by decide +kernel
theorem dX12_told_13 : decode cX12_told 13 = .ok (.getfield 50, 3) := by decide +kernel
theorem dX12_told_16 : decode cX12_told 16 = .ok (.iload_n 1, 1) := by decide +kernel
theorem dX12_told_17 : decode cX12_told 17 = .ok (.iaload, 1) := by decide +kernel
theorem dX12_told_18 : decode cX12_told 18 = .ok (.istore_n 3, 1) := by decide +kernel
theorem dX12_told_19 : decode cX12_told 19 = .ok (.iconst 2, 1) := by decide +kernel
theorem dX12_told_20 : decode cX12_told 20 = .ok (.aload_n 0, 1) := by decide +kernel
theorem dX12_told_21 : decode cX12_told 21 = .ok (.iload_n 1, 1) := by decide +kernel
theorem dX12_told_22 : decode cX12_told 22 = .ok (.invokevirtual 386, 3) := by decide +kernel
theorem dX12_told_25 : decode cX12_told 25 = .ok (.imul, 1) := by decide +kernel
theorem dX12_told_26 : decode cX12_told 26 = .ok (.iconst 1, 1) := by decide +kernel
theorem dX12_told_27 : decode cX12_told 27 = .ok (.iadd, 1) := by decide +kernel
theorem dX12_told_28 : decode cX12_told 28 = .ok (.istore 4, 2) := by decide +kernel
theorem dX12_told_30 : decode cX12_told 30 = .ok (.iload_n 2, 1) := by decide +kernel
theorem dX12_told_31 : decode cX12_told 31 = .ok (.tableswitch 179 0 9 #[53, 56, 64, 72, 87, 102, 123, 130, 137, 172], 53) := by decide +kernel
theorem dX12_told_84 : decode cX12_told 84 = .ok (.iload_n 3, 1) := by decide +kernel
theorem dX12_told_85 : decode cX12_told 85 = .ok (.i2l, 1) := by decide +kernel
theorem dX12_told_86 : decode cX12_told 86 = .ok (.lreturn, 1) := by decide +kernel
theorem dX12_told_87 : decode cX12_told 87 = .ok (.aload_n 0, 1) := by decide +kernel
theorem dX12_told_88 : decode cX12_told 88 = .ok (.iload_n 1, 1) := by decide +kernel
theorem dX12_told_89 : decode cX12_told 89 = .ok (.iload_n 3, 1) := by decide +kernel
theorem dX12_told_90 : decode cX12_told 90 = .ok (.invokevirtual 376, 3) := by decide +kernel
theorem dX12_told_93 : decode cX12_told 93 = .ok (.i2l, 1) := by decide +kernel
theorem dX12_told_94 : decode cX12_told 94 = .ok (.lreturn, 1) := by decide +kernel
theorem dX12_told_95 : decode cX12_told 95 = .ok (.aload_n 0, 1) := by decide +kernel
theorem dX12_told_96 : decode cX12_told 96 = .ok (.iload_n 1, 1) := by decide +kernel
theorem dX12_told_97 : decode cX12_told 97 = .ok (.iload_n 3, 1) := by decide +kernel
theorem dX12_told_98 : decode cX12_told 98 = .ok (.invokevirtual 379, 3) := by decide +kernel
theorem dX12_told_101 : decode cX12_told 101 = .ok (.i2l, 1) := by decide +kernel
theorem dX12_told_102 : decode cX12_told 102 = .ok (.lreturn, 1) := by decide +kernel
theorem dX12_told_103 : decode cX12_told 103 = .ok (.aload_n 0, 1) := by decide +kernel
theorem dX12_told_104 : decode cX12_told 104 = .ok (.iload_n 1, 1) := by decide +kernel
theorem dX12_told_105 : decode cX12_told 105 = .ok (.iload_n 3, 1) := by decide +kernel
theorem dX12_told_106 : decode cX12_told 106 = .ok (.invokevirtual 382, 3) := by decide +kernel
theorem dX12_told_109 : decode cX12_told 109 = .ok (.ifCond .eq 7, 3) := by decide +kernel
theorem dX12_told_112 : decode cX12_told 112 = .ok (.lconst 1, 1) := by decide +kernel
theorem dX12_told_113 : decode cX12_told 113 = .ok (.goto 4, 3) := by decide +kernel
theorem dX12_told_116 : decode cX12_told 116 = .ok (.lconst 0, 1) := by decide +kernel
theorem dX12_told_117 : decode cX12_told 117 = .ok (.lreturn, 1) := by decide +kernel
theorem dX12_told_118 : decode cX12_told 118 = .ok (.aload_n 0, 1) := by decide +kernel
theorem dX12_told_119 : decode cX12_told 119 = .ok (.iload_n 1, 1) := by decide +kernel
theorem dX12_told_120 : decode cX12_told 120 = .ok (.iload_n 3, 1) := by decide +kernel
theorem dX12_told_121 : decode cX12_told 121 = .ok (.invokevirtual 392, 3) := by decide +kernel
theorem dX12_told_124 : decode cX12_told 124 = .ok (.ifCond .eq 7, 3) := by decide +kernel
theorem dX12_told_127 : decode cX12_told 127 = .ok (.lconst 1, 1) := by decide +kernel
theorem dX12_told_128 : decode cX12_told 128 = .ok (.goto 4, 3) := by decide +kernel
theorem dX12_told_131 : decode cX12_told 131 = .ok (.lconst 0, 1) := by decide +kernel
theorem dX12_told_132 : decode cX12_told 132 = .ok (.lreturn, 1) := by decide +kernel
theorem dX12_told_133 : decode cX12_told 133 = .ok (.aload_n 0, 1) := by decide +kernel
theorem dX12_told_134 : decode cX12_told 134 = .ok (.iload_n 1, 1) := by decide +kernel
theorem dX12_told_135 : decode cX12_told 135 = .ok (.iload_n 3, 1) := by decide +kernel
theorem dX12_told_136 : decode cX12_told 136 = .ok (.invokevirtual 392, 3) := by decide +kernel
theorem dX12_told_139 : decode cX12_told 139 = .ok (.aload_n 0, 1) := by decide +kernel
theorem dX12_told_140 : decode cX12_told 140 = .ok (.iload_n 1, 1) := by decide +kernel
theorem dX12_told_141 : decode cX12_told 141 = .ok (.iconst 0, 1) := by decide +kernel
theorem dX12_told_142 : decode cX12_told 142 = .ok (.invokevirtual 392, 3) := by decide +kernel
theorem dX12_told_145 : decode cX12_told 145 = .ok (.if_icmp .eq 7, 3) := by decide +kernel
theorem dX12_told_148 : decode cX12_told 148 = .ok (.lconst 1, 1) := by decide +kernel
theorem dX12_told_149 : decode cX12_told 149 = .ok (.goto 4, 3) := by decide +kernel
theorem dX12_told_152 : decode cX12_told 152 = .ok (.lconst 0, 1) := by decide +kernel
theorem dX12_told_153 : decode cX12_told 153 = .ok (.lreturn, 1) := by decide +kernel
theorem dX12_told_154 : decode cX12_told 154 = .ok (.aload_n 0, 1) := by decide +kernel
theorem dX12_told_155 : decode cX12_told 155 = .ok (.iload_n 1, 1) := by decide +kernel
theorem dX12_told_156 : decode cX12_told 156 = .ok (.invokevirtual 395, 3) := by decide +kernel
theorem dX12_told_159 : decode cX12_told 159 = .ok (.i2l, 1) := by decide +kernel
theorem dX12_told_160 : decode cX12_told 160 = .ok (.lreturn, 1) := by decide +kernel
theorem dX12_told_161 : decode cX12_told 161 = .ok (.iload 4, 2) := by decide +kernel
theorem dX12_told_163 : decode cX12_told 163 = .ok (.iload 4, 2) := by decide +kernel
theorem dX12_told_165 : decode cX12_told 165 = .ok (.imul, 1) := by decide +kernel
theorem dX12_told_166 : decode cX12_told 166 = .ok (.i2l, 1) := by decide +kernel
theorem dX12_told_167 : decode cX12_told 167 = .ok (.lreturn, 1) := by decide +kernel
theorem dX12_told_168 : decode cX12_told 168 = .ok (.aload_n 0, 1) := by decide +kernel
theorem dX12_told_169 : decode cX12_told 169 = .ok (.iload_n 1, 1) := by decide +kernel
theorem dX12_told_170 : decode cX12_told 170 = .ok (.aload_n 0, 1) := by decide +kernel
theorem dX12_told_171 : decode cX12_told 171 = .ok (.aload_n 0, 1) := by decide +kernel
theorem dX12_told_172 : decode cX12_told 172 = .ok (.getfield 62, 3) := by decide +kernel
theorem dX12_told_175 : decode cX12_told 175 = .ok (.iload_n 1, 1) := by decide +kernel
theorem dX12_told_176 : decode cX12_told 176 = .ok (.iaload, 1) := by decide +kernel
theorem dX12_told_177 : decode cX12_told 177 = .ok (.aload_n 0, 1) := by decide +kernel
theorem dX12_told_178 : decode cX12_told 178 = .ok (.getfield 59, 3) := by decide +kernel
theorem dX12_told_181 : decode cX12_told 181 = .ok (.iload_n 1, 1) := by decide +kernel
theorem dX12_told_182 : decode cX12_told 182 = .ok (.iaload, 1) := by decide +kernel
theorem dX12_told_183 : decode cX12_told 183 = .ok (.invokevirtual 346, 3) := by decide +kernel
theorem dX12_told_186 : decode cX12_told 186 = .ok (.invokevirtual 366, 3) := by decide +kernel
theorem dX12_told_189 : decode cX12_told 189 = .ok (.aload_n 0, 1) := by decide +kernel
theorem dX12_told_190 : decode cX12_told 190 = .ok (.iload_n 1, 1) := by decide +kernel
theorem dX12_told_191 : decode cX12_told 191 = .ok (.aload_n 0, 1) := by decide +kernel
theorem dX12_told_192 : decode cX12_told 192 = .ok (.getfield 59, 3) := by decide +kernel
theorem dX12_told_195 : decode cX12_told 195 = .ok (.iload_n 1, 1) := by decide +kernel
theorem dX12_told_196 : decode cX12_told 196 = .ok (.iaload, 1) := by decide +kernel
theorem dX12_told_197 : decode cX12_told 197 = .ok (.invokevirtual 366, 3) := by decide +kernel
theorem dX12_told_200 : decode cX12_told 200 = .ok (.isub, 1) := by decide +kernel
theorem dX12_told_201 : decode cX12_told 201 = .ok (.i2l, 1) := by decide +kernel
theorem dX12_told_202 : decode cX12_told 202 = .ok (.lreturn, 1) := by decide +kernel
theorem dX12_told_203 : decode cX12_told 203 = .ok (.aload_n 0, 1) := by decide +kernel
theorem dX12_told_204 : decode cX12_told 204 = .ok (.iload_n 1, 1) := by decide +kernel
theorem dX12_told_205 : decode cX12_told 205 = .ok (.invokevirtual 398, 3) := by decide +kernel
theorem dX12_told_208 : decode cX12_told 208 = .ok (.i2l, 1) := by decide +kernel
theorem dX12_told_209 : decode cX12_told 209 = .ok (.lreturn, 1) := by decide +kernel
theorem dX12_told_210 : decode cX12_told 210 = .ok (.ldc2_w 311, 3) := by decide +kernel
theorem dX12_told_213 : decode cX12_told 213 = .ok (.lreturn, 1) := by decide +kernel
theorem dX12_offsides_0 : decode cX12_offsides 0 = .ok (.iconst 0, 1) := by decide +kernel
theorem dX12_offsides_1 : decode cX12_offsides 1 = .ok (.istore_n 2, 1) := by decide +kernel
theorem dX12_offsides_2 : decode cX12_offsides 2 = .ok (.iconst 0, 1) := by decide +kernel
theorem dX12_offsides_3 : decode cX12_offsides 3 = .ok (.istore_n 3, 1) := by decide +kernel
theorem dX12_offsides_4 : decode cX12_offsides 4 = .ok (.iload_n 3, 1) := by decide +kernel
theorem dX12_offsides_5 : decode cX12_offsides 5 = .ok (.aload_n 0, 1) := by decide +kernel
theorem dX12_offsides_6 : decode cX12_offsides 6 = .ok (.getfield 363, 3) := by decide +kernel
theorem dX12_offsides_9 : decode cX12_offsides 9 = .ok (.if_icmp .ge 42, 3) := by decide +kernel
theorem dX12_offsides_12 : decode cX12_offsides 12 = .ok (.iload_n 2, 1) := by decide +kernel
theorem dX12_offsides_13 : decode cX12_offsides 13 = .ok (.iload_n 1, 1) := by decide +kernel
theorem dX12_offsides_14 : decode cX12_offsides 14 = .ok (.iload_n 3, 1) := by decide +kernel
theorem dX12_offsides_15 : decode cX12_offsides 15 = .ok (.ishr, 1) := by decide +kernel
theorem dX12_offsides_16 : decode cX12_offsides 16 = .ok (.iconst 1, 1) := by decide +kernel
theorem dX12_offsides_17 : decode cX12_offsides 17 = .ok (.iand, 1) := by decide +kernel
theorem dX12_offsides_18 : decode cX12_offsides 18 = .ok (.iconst 1, 1) := by decide +kernel
theorem dX12_offsides_19 : decode cX12_offsides 19 = .ok (.if_icmp .ne 23, 3) := by decide +kernel
theorem dX12_offsides_22 : decode cX12_offsides 22 = .ok (.aload_n 0, 1) := by decide +kernel
theorem dX12_offsides_23 : decode cX12_offsides 23 = .ok (.iload_n 3, 1) := by decide +kernel
theorem dX12_offsides_24 : decode cX12_offsides 24 = .ok (.aload_n 0, 1) := by decide +kernel
theorem dX12_offsides_25 : decode cX12_offsides 25 = .ok (.getfield 50, 3) := by decide +kernel
theorem dX12_offsides_28 : decode cX12_offsides 28 = .ok (.iload_n 3, 1) := by decide +kernel
theorem dX12_offsides_29 : decode cX12_offsides 29 = .ok (.iaload, 1) := by decide +kernel
theorem dX12_offsides_30 : decode cX12_offsides 30 = .ok (.invokevirtual 392, 3) := by decide +kernel
theorem dX12_offsides_33 : decode cX12_offsides 33 = .ok (.ifCond .eq 9, 3) := by decide +kernel
theorem dX12_offsides_36 : decode cX12_offsides 36 = .ok (.iconst 1, 1) := by decide +kernel
theorem dX12_offsides_37 : decode cX12_offsides 37 = .ok (.iload_n 3, 1) := by decide +kernel
theorem dX12_offsides_38 : decode cX12_offsides 38 = .ok (.ishl, 1) := by decide +kernel
theorem dX12_offsides_39 : decode cX12_offsides 39 = .ok (.goto 4, 3) := by decide +kernel
theorem dX12_offsides_42 : decode cX12_offsides 42 = .ok (.iconst 0, 1) := by decide +kernel
theorem dX12_offsides_43 : decode cX12_offsides 43 = .ok (.ior, 1) := by decide +kernel
theorem dX12_offsides_44 : decode cX12_offsides 44 = .ok (.istore_n 2, 1) := by decide +kernel
theorem dX12_offsides_45 : decode cX12_offsides 45 = .ok (.iinc 3 1, 3) := by decide +kernel
theorem dX12_offsides_48 : decode cX12_offsides 48 = .ok (.goto (-44), 3) := by decide +kernel
theorem dX12_offsides_51 : decode cX12_offsides 51 = .ok (.iload_n 2, 1) := by decide +kernel
theorem dX12_offsides_52 : decode cX12_offsides 52 = .ok (.ireturn, 1) := by decide +kernel
theorem dX12_all_0 : decode cX12_all 0 = .ok (.iconst 1, 1) := by decide +kernel
theorem dX12_all_1 : decode cX12_all 1 = .ok (.aload_n 0, 1) := by decide +kernel
theorem dX12_all_2 : decode cX12_all 2 = .ok (.getfield 363, 3) := by decide +kernel
theorem dX12_all_5 : decode cX12_all 5 = .ok (.ishl, 1) := by decide +kernel
theorem dX12_all_6 : decode cX12_all 6 = .ok (.iconst 1, 1) := by decide +kernel
theorem dX12_all_7 : decode cX12_all 7 = .ok (.isub, 1) := by decide +kernel
theorem dX12_all_8 : decode cX12_all 8 = .ok (.ireturn, 1) := by decide +kernel
theorem dX12_offside_0 : decode cX12_offside 0 = .ok (.aload_n 0, 1) := by decide +kernel
theorem dX12_offside_1 : decode cX12_offside 1 = .ok (.aload_n 0, 1) := by decide +kernel
theorem dX12_offside_2 : decode cX12_offside 2 = .ok (.invokevirtual 401, 3) := by decide +kernel
theorem dX12_offside_5 : decode cX12_offside 5 = .ok (.invokevirtual 404, 3) := by decide +kernel
theorem dX12_offside_8 : decode cX12_offside 8 = .ok (.ireturn, 1) := by decide +kernel
theorem dX12_widths_0 : decode cX12_widths 0 = .ok (.aload_n 0, 1) := by decide +kernel
theorem dX12_widths_1 : decode cX12_widths 1 = .ok (.getfield 101, 3) := by decide +kernel
theorem dX12_widths_4 : decode cX12_widths 4 = .ok (.iload_n 1, 1) := by decide +kernel
theorem dX12_widths_5 : decode cX12_widths 5 = .ok (.baload, 1) := by decide +kernel
theorem dX12_widths_6 : decode cX12_widths 6 = .ok (.ifCond .ne 6, 3) := by decide +kernel
theorem dX12_widths_9 : decode cX12_widths 9 = .ok (.bipush (-11), 2) := by decide +kernel
theorem dX12_widths_11 : decode cX12_widths 11 = .ok (.ireturn, 1) := by decide +kernel
theorem dX12_widths_12 : decode cX12_widths 12 = .ok (.aload_n 0, 1) := by decide +kernel
theorem dX12_widths_13 : decode cX12_widths 13 = .ok (.getfield 108, 3) := by decide +kernel
theorem dX12_widths_16 : decode cX12_widths 16 = .ok (.iload_n 1, 1) := by decide +kernel
theorem dX12_widths_17 : decode cX12_widths 17 = .ok (.iaload, 1) := by decide +kernel
theorem dX12_widths_18 : decode cX12_widths 18 = .ok (.i2l, 1) := by decide +kernel
theorem dX12_widths_19 : decode cX12_widths 19 = .ok (.lconst 1, 1) := by decide +kernel
theorem dX12_widths_20 : decode cX12_widths 20 = .ok (.ldc2_w 162, 3) := by decide +kernel
theorem dX12_widths_23 : decode cX12_widths 23 = .ok (.invokestatic 138, 3) := by decide +kernel
theorem dX12_widths_26 : decode cX12_widths 26 = .ok (.ifCond .ne 6, 3) := by decide +kernel
theorem dX12_widths_29 : decode cX12_widths 29 = .ok (.bipush (-2), 2) := by decide +kernel
theorem dX12_widths_31 : decode cX12_widths 31 = .ok (.ireturn, 1) := by decide +kernel
theorem dX12_widths_32 : decode cX12_widths 32 = .ok (.iconst 0, 1) := by decide +kernel
theorem dX12_widths_33 : decode cX12_widths 33 = .ok (.istore_n 2, 1) := by decide +kernel
theorem dX12_widths_34 : decode cX12_widths 34 = .ok (.iload_n 2, 1) := by decide +kernel
theorem dX12_widths_35 : decode cX12_widths 35 = .ok (.aload_n 0, 1) := by decide +kernel
theorem dX12_widths_36 : decode cX12_widths 36 = .ok (.getfield 108, 3) := by decide +kernel
theorem dX12_widths_39 : decode cX12_widths 39 = .ok (.iload_n 1, 1) := by decide +kernel
theorem dX12_widths_40 : decode cX12_widths 40 = .ok (.iaload, 1) := by decide +kernel
theorem dX12_widths_41 : decode cX12_widths 41 = .ok (.if_icmp .ge 29, 3) := by decide +kernel
theorem dX12_widths_44 : decode cX12_widths 44 = .ok (.aload_n 0, 1) := by decide +kernel
theorem dX12_widths_45 : decode cX12_widths 45 = .ok (.getfield 111, 3) := by decide +kernel
theorem dX12_widths_48 : decode cX12_widths 48 = .ok (.bipush 40, 2) := by decide +kernel
theorem dX12_widths_50 : decode cX12_widths 50 = .ok (.iload_n 1, 1) := by decide +kernel
theorem dX12_widths_51 : decode cX12_widths 51 = .ok (.imul, 1) := by decide +kernel
theorem dX12_widths_52 : decode cX12_widths 52 = .ok (.iload_n 2, 1) := by decide +kernel
theorem dX12_widths_53 : decode cX12_widths 53 = .ok (.iadd, 1) := by decide +kernel
theorem dX12_widths_54 : decode cX12_widths 54 = .ok (.iaload, 1) := by decide +kernel
theorem dX12_widths_55 : decode cX12_widths 55 = .ok (.invokestatic 313, 3) := by decide +kernel
theorem dX12_widths_58 : decode cX12_widths 58 = .ok (.ifCond .ne 6, 3) := by decide +kernel
theorem dX12_widths_61 : decode cX12_widths 61 = .ok (.bipush (-2), 2) := by decide +kernel
theorem dX12_widths_63 : decode cX12_widths 63 = .ok (.ireturn, 1) := by decide +kernel
theorem dX12_widths_64 : decode cX12_widths 64 = .ok (.iinc 2 1, 3) := by decide +kernel
theorem dX12_widths_67 : decode cX12_widths 67 = .ok (.goto (-33), 3) := by decide +kernel
theorem dX12_widths_70 : decode cX12_widths 70 = .ok (.iconst 0, 1) := by decide +kernel
theorem dX12_widths_71 : decode cX12_widths 71 = .ok (.ireturn, 1) := by decide +kernel
theorem dX12_wrongs_0 : decode cX12_wrongs 0 = .ok (.aload_n 0, 1) := by decide +kernel
theorem dX12_wrongs_1 : decode cX12_wrongs 1 = .ok (.getfield 247, 3) := by decide +kernel
theorem dX12_wrongs_4 : decode cX12_wrongs 4 = .ok (.istore 4, 2) := by decide +kernel
theorem dX12_wrongs_6 : decode cX12_wrongs 6 = .ok (.aload_n 0, 1) := by decide +kernel
theorem dX12_wrongs_7 : decode cX12_wrongs 7 = .ok (.iload_n 2, 1) := by decide +kernel
theorem dX12_wrongs_8 : decode cX12_wrongs 8 = .ok (.putfield 247, 3) := by decide +kernel
theorem dX12_wrongs_11 : decode cX12_wrongs 11 = .ok (.iconst 0, 1) := by decide +kernel
theorem dX12_wrongs_12 : decode cX12_wrongs 12 = .ok (.istore 5, 2) := by decide +kernel
theorem dX12_wrongs_14 : decode cX12_wrongs 14 = .ok (.iconst 0, 1) := by decide +kernel
theorem dX12_wrongs_15 : decode cX12_wrongs 15 = .ok (.istore 6, 2) := by decide +kernel
theorem dX12_wrongs_17 : decode cX12_wrongs 17 = .ok (.iload 6, 2) := by decide +kernel
theorem dX12_wrongs_19 : decode cX12_wrongs 19 = .ok (.aload_n 0, 1) := by decide +kernel
theorem dX12_wrongs_20 : decode cX12_wrongs 20 = .ok (.getfield 363, 3) := by decide +kernel
theorem dX12_wrongs_23 : decode cX12_wrongs 23 = .ok (.if_icmp .ge 82, 3) := by decide +kernel
theorem dX12_wrongs_26 : decode cX12_wrongs 26 = .ok (.iload_n 1, 1) := by decide +kernel
theorem dX12_wrongs_27 : decode cX12_wrongs 27 = .ok (.iload 6, 2) := by decide +kernel
theorem dX12_wrongs_29 : decode cX12_wrongs 29 = .ok (.ishr, 1) := by decide +kernel
theorem dX12_wrongs_30 : decode cX12_wrongs 30 = .ok (.iconst 1, 1) := by decide +kernel
theorem dX12_wrongs_31 : decode cX12_wrongs 31 = .ok (.iand, 1) := by decide +kernel
theorem dX12_wrongs_32 : decode cX12_wrongs 32 = .ok (.ifCond .ne 6, 3) := by decide +kernel
theorem dX12_wrongs_35 : decode cX12_wrongs 35 = .ok (.goto 64, 3) := by decide +kernel
theorem dX12_wrongs_38 : decode cX12_wrongs 38 = .ok (.aload_n 0, 1) := by decide +kernel
theorem dX12_wrongs_39 : decode cX12_wrongs 39 = .ok (.iload 6, 2) := by decide +kernel
theorem dX12_wrongs_41 : decode cX12_wrongs 41 = .ok (.iconst 0, 1) := by decide +kernel
theorem dX12_wrongs_42 : decode cX12_wrongs 42 = .ok (.invokevirtual 392, 3) := by decide +kernel
theorem dX12_wrongs_45 : decode cX12_wrongs 45 = .ok (.istore 7, 2) := by decide +kernel
theorem dX12_wrongs_47 : decode cX12_wrongs 47 = .ok (.aload_n 0, 1) := by decide +kernel
theorem dX12_wrongs_48 : decode cX12_wrongs 48 = .ok (.iload 6, 2) := by decide +kernel
theorem dX12_wrongs_50 : decode cX12_wrongs 50 = .ok (.aload_n 0, 1) := by decide +kernel
theorem dX12_wrongs_51 : decode cX12_wrongs 51 = .ok (.getfield 50, 3) := by decide +kernel
theorem dX12_wrongs_54 : decode cX12_wrongs 54 = .ok (.iload 6, 2) := by decide +kernel
theorem dX12_wrongs_56 : decode cX12_wrongs 56 = .ok (.iaload, 1) := by decide +kernel
theorem dX12_wrongs_57 : decode cX12_wrongs 57 = .ok (.invokevirtual 392, 3) := by decide +kernel
theorem dX12_wrongs_60 : decode cX12_wrongs 60 = .ok (.istore 8, 2) := by decide +kernel
theorem dX12_wrongs_62 : decode cX12_wrongs 62 = .ok (.iload 5, 2) := by decide +kernel
theorem dX12_wrongs_64 : decode cX12_wrongs 64 = .ok (.iload_n 3, 1) := by decide +kernel
theorem dX12_wrongs_65 : decode cX12_wrongs 65 = .ok (.ifCond .ne 16, 3) := by decide +kernel
theorem dX12_wrongs_68 : decode cX12_wrongs 68 = .ok (.iload 7, 2) := by decide +kernel
theorem dX12_wrongs_70 : decode cX12_wrongs 70 = .ok (.ifCond .eq 25, 3) := by decide +kernel
theorem dX12_wrongs_73 : decode cX12_wrongs 73 = .ok (.iload 8, 2) := by decide +kernel
theorem dX12_wrongs_75 : decode cX12_wrongs 75 = .ok (.ifCond .ne 20, 3) := by decide +kernel
theorem dX12_wrongs_78 : decode cX12_wrongs 78 = .ok (.goto 13, 3) := by decide +kernel
theorem dX12_wrongs_81 : decode cX12_wrongs 81 = .ok (.iload 8, 2) := by decide +kernel
theorem dX12_wrongs_83 : decode cX12_wrongs 83 = .ok (.ifCond .eq 12, 3) := by decide +kernel
theorem dX12_wrongs_86 : decode cX12_wrongs 86 = .ok (.iload 7, 2) := by decide +kernel
theorem dX12_wrongs_88 : decode cX12_wrongs 88 = .ok (.ifCond .ne 7, 3) := by decide +kernel
theorem dX12_wrongs_91 : decode cX12_wrongs 91 = .ok (.iconst 1, 1) := by decide +kernel
theorem dX12_wrongs_92 : decode cX12_wrongs 92 = .ok (.goto 4, 3) := by decide +kernel
theorem dX12_wrongs_95 : decode cX12_wrongs 95 = .ok (.iconst 0, 1) := by decide +kernel
theorem dX12_wrongs_96 : decode cX12_wrongs 96 = .ok (.iadd, 1) := by decide +kernel
theorem dX12_wrongs_97 : decode cX12_wrongs 97 = .ok (.istore 5, 2) := by decide +kernel
theorem dX12_wrongs_99 : decode cX12_wrongs 99 = .ok (.iinc 6 1, 3) := by decide +kernel
theorem dX12_wrongs_102 : decode cX12_wrongs 102 = .ok (.goto (-85), 3) := by decide +kernel
theorem dX12_wrongs_105 : decode cX12_wrongs 105 = .ok (.aload_n 0, 1) := by decide +kernel
theorem dX12_wrongs_106 : decode cX12_wrongs 106 = .ok (.iload 4, 2) := by decide +kernel
theorem dX12_wrongs_108 : decode cX12_wrongs 108 = .ok (.putfield 247, 3) := by decide +kernel
theorem dX12_wrongs_111 : decode cX12_wrongs 111 = .ok (.iload 5, 2) := by decide +kernel
theorem dX12_wrongs_113 : decode cX12_wrongs 113 = .ok (.ireturn, 1) := by decide +kernel
theorem dX12_wrong_0 : decode cX12_wrong 0 = .ok (.iload_n 1, 1) := by decide +kernel
theorem dX12_wrong_1 : decode cX12_wrong 1 = .ok (.invokestatic 407, 3) := by decide +kernel
theorem dX12_wrong_4 : decode cX12_wrong 4 = .ok (.ifCond .eq 28, 3) := by decide +kernel
theorem dX12_wrong_7 : decode cX12_wrong 7 = .ok (.iload_n 2, 1) := by decide +kernel
theorem dX12_wrong_8 : decode cX12_wrong 8 = .ok (.i2l, 1) := by decide +kernel
theorem dX12_wrong_9 : decode cX12_wrong 9 = .ok (.lconst 0, 1) := by decide +kernel
theorem dX12_wrong_10 : decode cX12_wrong 10 = .ok (.aload_n 0, 1) := by decide +kernel
theorem dX12_wrong_11 : decode cX12_wrong 11 = .ok (.invokevirtual 401, 3) := by decide +kernel
theorem dX12_wrong_14 : decode cX12_wrong 14 = .ok (.i2l, 1) := by decide +kernel
theorem dX12_wrong_15 : decode cX12_wrong 15 = .ok (.invokestatic 138, 3) := by decide +kernel
theorem dX12_wrong_18 : decode cX12_wrong 18 = .ok (.ifCond .eq 14, 3) := by decide +kernel
theorem dX12_wrong_21 : decode cX12_wrong 21 = .ok (.iload 4, 2) := by decide +kernel
theorem dX12_wrong_23 : decode cX12_wrong 23 = .ok (.i2l, 1) := by decide +kernel
theorem dX12_wrong_24 : decode cX12_wrong 24 = .ok (.lconst 0, 1) := by decide +kernel
theorem dX12_wrong_25 : decode cX12_wrong 25 = .ok (.lconst 1, 1) := by decide +kernel
theorem dX12_wrong_26 : decode cX12_wrong 26 = .ok (.invokestatic 138, 3) := by decide +kernel
theorem dX12_wrong_29 : decode cX12_wrong 29 = .ok (.ifCond .ne 6, 3) := by decide +kernel
theorem dX12_wrong_32 : decode cX12_wrong 32 = .ok (.bipush (-2), 2) := by decide +kernel
theorem dX12_wrong_34 : decode cX12_wrong 34 = .ok (.ireturn, 1) := by decide +kernel
theorem dX12_wrong_35 : decode cX12_wrong 35 = .ok (.aload_n 0, 1) := by decide +kernel
theorem dX12_wrong_36 : decode cX12_wrong 36 = .ok (.iload_n 1, 1) := by decide +kernel
theorem dX12_wrong_37 : decode cX12_wrong 37 = .ok (.invokevirtual 410, 3) := by decide +kernel
theorem dX12_wrong_40 : decode cX12_wrong 40 = .ok (.istore 5, 2) := by decide +kernel
theorem dX12_wrong_42 : decode cX12_wrong 42 = .ok (.iload 5, 2) := by decide +kernel
theorem dX12_wrong_44 : decode cX12_wrong 44 = .ok (.ifCond .eq 6, 3) := by decide +kernel
theorem dX12_wrong_47 : decode cX12_wrong 47 = .ok (.iload 5, 2) := by decide +kernel
theorem dX12_wrong_49 : decode cX12_wrong 49 = .ok (.ireturn, 1) := by decide +kernel
theorem dX12_wrong_50 : decode cX12_wrong 50 = .ok (.iload_n 3, 1) := by decide +kernel
theorem dX12_wrong_51 : decode cX12_wrong 51 = .ok (.i2l, 1) := by decide +kernel
theorem dX12_wrong_52 : decode cX12_wrong 52 = .ok (.lconst 0, 1) := by decide +kernel
theorem dX12_wrong_53 : decode cX12_wrong 53 = .ok (.aload_n 0, 1) := by decide +kernel
theorem dX12_wrong_54 : decode cX12_wrong 54 = .ok (.getfield 108, 3) := by decide +kernel
theorem dX12_wrong_57 : decode cX12_wrong 57 = .ok (.iload_n 1, 1) := by decide +kernel
theorem dX12_wrong_58 : decode cX12_wrong 58 = .ok (.iaload, 1) := by decide +kernel
theorem dX12_wrong_59 : decode cX12_wrong 59 = .ok (.iconst 1, 1) := by decide +kernel
theorem dX12_wrong_60 : decode cX12_wrong 60 = .ok (.isub, 1) := by decide +kernel
theorem dX12_wrong_61 : decode cX12_wrong 61 = .ok (.i2l, 1) := by decide +kernel
theorem dX12_wrong_62 : decode cX12_wrong 62 = .ok (.invokestatic 138, 3) := by decide +kernel
theorem dX12_wrong_65 : decode cX12_wrong 65 = .ok (.ifCond .eq 24, 3) := by decide +kernel
theorem dX12_wrong_68 : decode cX12_wrong 68 = .ok (.aload_n 0, 1) := by decide +kernel
theorem dX12_wrong_69 : decode cX12_wrong 69 = .ok (.iload_n 2, 1) := by decide +kernel
theorem dX12_wrong_70 : decode cX12_wrong 70 = .ok (.aload_n 0, 1) := by decide +kernel
theorem dX12_wrong_71 : decode cX12_wrong 71 = .ok (.getfield 111, 3) := by decide +kernel
theorem dX12_wrong_74 : decode cX12_wrong 74 = .ok (.bipush 40, 2) := by decide +kernel
theorem dX12_wrong_76 : decode cX12_wrong 76 = .ok (.iload_n 1, 1) := by decide +kernel
theorem dX12_wrong_77 : decode cX12_wrong 77 = .ok (.imul, 1) := by decide +kernel
theorem dX12_wrong_78 : decode cX12_wrong 78 = .ok (.iload_n 3, 1) := by decide +kernel
theorem dX12_wrong_79 : decode cX12_wrong 79 = .ok (.iadd, 1) := by decide +kernel
theorem dX12_wrong_80 : decode cX12_wrong 80 = .ok (.iaload, 1) := by decide +kernel
theorem dX12_wrong_81 : decode cX12_wrong 81 = .ok (.iload 4, 2) := by decide +kernel
theorem dX12_wrong_83 : decode cX12_wrong 83 = .ok (.invokevirtual 413, 3) := by decide +kernel
theorem dX12_wrong_86 : decode cX12_wrong 86 = .ok (.goto 4, 3) := by decide +kernel
theorem dX12_wrong_89 : decode cX12_wrong 89 = .ok (.iconst (-1), 1) := by decide +kernel
theorem dX12_wrong_90 : decode cX12_wrong 90 = .ok (.ireturn, 1) := by decide +kernel
theorem dX12_best_0 : decode cX12_best 0 = .ok (.iload_n 1, 1) := by decide +kernel
theorem dX12_best_1 : decode cX12_best 1 = .ok (.invokestatic 407, 3) := by decide +kernel
theorem dX12_best_4 : decode cX12_best 4 = .ok (.ifCond .eq 29, 3) := by decide +kernel
theorem dX12_best_7 : decode cX12_best 7 = .ok (.iload_n 2, 1) := by decide +kernel
theorem dX12_best_8 : decode cX12_best 8 = .ok (.i2l, 1) := by decide +kernel
theorem dX12_best_9 : decode cX12_best 9 = .ok (.lconst 0, 1) := by decide +kernel
theorem dX12_best_10 : decode cX12_best 10 = .ok (.aload_n 0, 1) := by decide +kernel
theorem dX12_best_11 : decode cX12_best 11 = .ok (.invokevirtual 401, 3) := by decide +kernel
theorem dX12_best_14 : decode cX12_best 14 = .ok (.i2l, 1) := by decide +kernel
theorem dX12_best_15 : decode cX12_best 15 = .ok (.invokestatic 138, 3) := by decide +kernel
theorem dX12_best_18 : decode cX12_best 18 = .ok (.ifCond .eq 15, 3) := by decide +kernel
theorem dX12_best_21 : decode cX12_best 21 = .ok (.iload_n 3, 1) := by decide +kernel
theorem dX12_best_22 : decode cX12_best 22 = .ok (.i2l, 1) := by decide +kernel
theorem dX12_best_23 : decode cX12_best 23 = .ok (.lconst 0, 1) := by decide +kernel
theorem dX12_best_24 : decode cX12_best 24 = .ok (.ldc2_w 148, 3) := by decide +kernel
theorem dX12_best_27 : decode cX12_best 27 = .ok (.invokestatic 138, 3) := by decide +kernel
theorem dX12_best_30 : decode cX12_best 30 = .ok (.ifCond .ne 6, 3) := by decide +kernel
theorem dX12_best_33 : decode cX12_best 33 = .ok (.bipush (-2), 2) := by decide +kernel
theorem dX12_best_35 : decode cX12_best 35 = .ok (.ireturn, 1) := by decide +kernel
theorem dX12_best_36 : decode cX12_best 36 = .ok (.aload_n 0, 1) := by decide +kernel
theorem dX12_best_37 : decode cX12_best 37 = .ok (.iload_n 1, 1) := by decide +kernel
theorem dX12_best_38 : decode cX12_best 38 = .ok (.invokevirtual 410, 3) := by decide +kernel
theorem dX12_best_41 : decode cX12_best 41 = .ok (.istore 4, 2) := by decide +kernel
theorem dX12_best_43 : decode cX12_best 43 = .ok (.iload 4, 2) := by decide +kernel
theorem dX12_best_45 : decode cX12_best 45 = .ok (.ifCond .eq 6, 3) := by decide +kernel
theorem dX12_best_48 : decode cX12_best 48 = .ok (.iload 4, 2) := by decide +kernel
theorem dX12_best_50 : decode cX12_best 50 = .ok (.ireturn, 1) := by decide +kernel
theorem dX12_best_51 : decode cX12_best 51 = .ok (.iconst 0, 1) := by decide +kernel
theorem dX12_best_52 : decode cX12_best 52 = .ok (.istore 5, 2) := by decide +kernel
theorem dX12_best_54 : decode cX12_best 54 = .ok (.iconst (-1), 1) := by decide +kernel
theorem dX12_best_55 : decode cX12_best 55 = .ok (.istore 6, 2) := by decide +kernel
theorem dX12_best_57 : decode cX12_best 57 = .ok (.iconst 0, 1) := by decide +kernel
theorem dX12_best_58 : decode cX12_best 58 = .ok (.istore 7, 2) := by decide +kernel
theorem dX12_best_60 : decode cX12_best 60 = .ok (.iload 7, 2) := by decide +kernel
theorem dX12_best_62 : decode cX12_best 62 = .ok (.aload_n 0, 1) := by decide +kernel
theorem dX12_best_63 : decode cX12_best 63 = .ok (.getfield 108, 3) := by decide +kernel
theorem dX12_best_66 : decode cX12_best 66 = .ok (.iload_n 1, 1) := by decide +kernel
theorem dX12_best_67 : decode cX12_best 67 = .ok (.iaload, 1) := by decide +kernel
theorem dX12_best_68 : decode cX12_best 68 = .ok (.if_icmp .ge 76, 3) := by decide +kernel
theorem dX12_best_71 : decode cX12_best 71 = .ok (.aload_n 0, 1) := by decide +kernel
theorem dX12_best_72 : decode cX12_best 72 = .ok (.getfield 111, 3) := by decide +kernel
theorem dX12_best_75 : decode cX12_best 75 = .ok (.bipush 40, 2) := by decide +kernel
theorem dX12_best_77 : decode cX12_best 77 = .ok (.iload_n 1, 1) := by decide +kernel
theorem dX12_best_78 : decode cX12_best 78 = .ok (.imul, 1) := by decide +kernel
theorem dX12_best_79 : decode cX12_best 79 = .ok (.iload 7, 2) := by decide +kernel
theorem dX12_best_81 : decode cX12_best 81 = .ok (.iadd, 1) := by decide +kernel
theorem dX12_best_82 : decode cX12_best 82 = .ok (.iaload, 1) := by decide +kernel
theorem dX12_best_83 : decode cX12_best 83 = .ok (.istore 8, 2) := by decide +kernel
theorem dX12_best_85 : decode cX12_best 85 = .ok (.aload_n 0, 1) := by decide +kernel
theorem dX12_best_86 : decode cX12_best 86 = .ok (.iload_n 2, 1) := by decide +kernel
theorem dX12_best_87 : decode cX12_best 87 = .ok (.iload 8, 2) := by decide +kernel
theorem dX12_best_89 : decode cX12_best 89 = .ok (.iconst 0, 1) := by decide +kernel
theorem dX12_best_90 : decode cX12_best 90 = .ok (.invokevirtual 413, 3) := by decide +kernel
theorem dX12_best_93 : decode cX12_best 93 = .ok (.iload_n 3, 1) := by decide +kernel
theorem dX12_best_94 : decode cX12_best 94 = .ok (.bipush 100, 2) := by decide +kernel
theorem dX12_best_96 : decode cX12_best 96 = .ok (.idiv, 1) := by decide +kernel
theorem dX12_best_97 : decode cX12_best 97 = .ok (.imul, 1) := by decide +kernel
theorem dX12_best_98 : decode cX12_best 98 = .ok (.aload_n 0, 1) := by decide +kernel
theorem dX12_best_99 : decode cX12_best 99 = .ok (.iload_n 2, 1) := by decide +kernel
theorem dX12_best_100 : decode cX12_best 100 = .ok (.iload 8, 2) := by decide +kernel
theorem dX12_best_102 : decode cX12_best 102 = .ok (.iconst 1, 1) := by decide +kernel
theorem dX12_best_103 : decode cX12_best 103 = .ok (.invokevirtual 413, 3) := by decide +kernel
theorem dX12_best_106 : decode cX12_best 106 = .ok (.iload_n 3, 1) := by decide +kernel
theorem dX12_best_107 : decode cX12_best 107 = .ok (.bipush 100, 2) := by decide +kernel
theorem dX12_best_109 : decode cX12_best 109 = .ok (.irem, 1) := by decide +kernel
theorem dX12_best_110 : decode cX12_best 110 = .ok (.imul, 1) := by decide +kernel
theorem dX12_best_111 : decode cX12_best 111 = .ok (.iadd, 1) := by decide +kernel
theorem dX12_best_112 : decode cX12_best 112 = .ok (.istore 9, 2) := by decide +kernel
theorem dX12_best_114 : decode cX12_best 114 = .ok (.iload 6, 2) := by decide +kernel
theorem dX12_best_116 : decode cX12_best 116 = .ok (.iconst (-1), 1) := by decide +kernel
theorem dX12_best_117 : decode cX12_best 117 = .ok (.if_icmp .eq 13, 3) := by decide +kernel
theorem dX12_best_120 : decode cX12_best 120 = .ok (.iload 9, 2) := by decide +kernel
theorem dX12_best_122 : decode cX12_best 122 = .ok (.iload 6, 2) := by decide +kernel
theorem dX12_best_124 : decode cX12_best 124 = .ok (.if_icmp .lt 6, 3) := by decide +kernel
theorem dX12_best_127 : decode cX12_best 127 = .ok (.goto 11, 3) := by decide +kernel
theorem dX12_best_130 : decode cX12_best 130 = .ok (.iload 9, 2) := by decide +kernel
theorem dX12_best_132 : decode cX12_best 132 = .ok (.istore 6, 2) := by decide +kernel
theorem dX12_best_134 : decode cX12_best 134 = .ok (.iload 8, 2) := by decide +kernel
theorem dX12_best_136 : decode cX12_best 136 = .ok (.istore 5, 2) := by decide +kernel
theorem dX12_best_138 : decode cX12_best 138 = .ok (.iinc 7 1, 3) := by decide +kernel
theorem dX12_best_141 : decode cX12_best 141 = .ok (.goto (-81), 3) := by decide +kernel
theorem dX12_best_144 : decode cX12_best 144 = .ok (.iload 5, 2) := by decide +kernel
theorem dX12_best_146 : decode cX12_best 146 = .ok (.ireturn, 1) := by decide +kernel
theorem dX12_match_0 : decode cX12_match 0 = .ok (.iload_n 1, 1) := by decide +kernel
theorem dX12_match_1 : decode cX12_match 1 = .ok (.ifCond .lt 70, 3) := by decide +kernel
theorem dX12_match_4 : decode cX12_match 4 = .ok (.iload_n 1, 1) := by decide +kernel
theorem dX12_match_5 : decode cX12_match 5 = .ok (.bipush 10, 2) := by decide +kernel
theorem dX12_match_7 : decode cX12_match 7 = .ok (.idiv, 1) := by decide +kernel
theorem dX12_match_8 : decode cX12_match 8 = .ok (.i2l, 1) := by decide +kernel
theorem dX12_match_9 : decode cX12_match 9 = .ok (.lconst 0, 1) := by decide +kernel
theorem dX12_match_10 : decode cX12_match 10 = .ok (.ldc2_w 146, 3) := by decide +kernel
theorem dX12_match_13 : decode cX12_match 13 = .ok (.invokestatic 138, 3) := by decide +kernel
theorem dX12_match_16 : decode cX12_match 16 = .ok (.ifCond .eq 55, 3) := by decide +kernel
theorem dX12_match_19 : decode cX12_match 19 = .ok (.iload_n 1, 1) := by decide +kernel
theorem dX12_match_20 : decode cX12_match 20 = .ok (.bipush 10, 2) := by decide +kernel
theorem dX12_match_22 : decode cX12_match 22 = .ok (.irem, 1) := by decide +kernel
theorem dX12_match_23 : decode cX12_match 23 = .ok (.i2l, 1) := by decide +kernel
theorem dX12_match_24 : decode cX12_match 24 = .ok (.lconst 0, 1) := by decide +kernel
theorem dX12_match_25 : decode cX12_match 25 = .ok (.ldc2_w 146, 3) := by decide +kernel
theorem dX12_match_28 : decode cX12_match 28 = .ok (.invokestatic 138, 3) := by decide +kernel
theorem dX12_match_31 : decode cX12_match 31 = .ok (.ifCond .eq 40, 3) := by decide +kernel
theorem dX12_match_34 : decode cX12_match 34 = .ok (.iload_n 1, 1) := by decide +kernel
theorem dX12_match_35 : decode cX12_match 35 = .ok (.bipush 10, 2) := by decide +kernel
theorem dX12_match_37 : decode cX12_match 37 = .ok (.idiv, 1) := by decide +kernel
theorem dX12_match_38 : decode cX12_match 38 = .ok (.iload_n 1, 1) := by decide +kernel
theorem dX12_match_39 : decode cX12_match 39 = .ok (.bipush 10, 2) := by decide +kernel
theorem dX12_match_41 : decode cX12_match 41 = .ok (.irem, 1) := by decide +kernel
theorem dX12_match_42 : decode cX12_match 42 = .ok (.if_icmp .eq 29, 3) := by decide +kernel
theorem dX12_match_45 : decode cX12_match 45 = .ok (.iload_n 2, 1) := by decide +kernel
theorem dX12_match_46 : decode cX12_match 46 = .ok (.i2l, 1) := by decide +kernel
theorem dX12_match_47 : decode cX12_match 47 = .ok (.lconst 0, 1) := by decide +kernel
theorem dX12_match_48 : decode cX12_match 48 = .ok (.ldc2_w 152, 3) := by decide +kernel
theorem dX12_match_51 : decode cX12_match 51 = .ok (.invokestatic 138, 3) := by decide +kernel
theorem dX12_match_54 : decode cX12_match 54 = .ok (.ifCond .eq 17, 3) := by decide +kernel
theorem dX12_match_57 : decode cX12_match 57 = .ok (.iload_n 3, 1) := by decide +kernel
theorem dX12_match_58 : decode cX12_match 58 = .ok (.i2l, 1) := by decide +kernel
theorem dX12_match_59 : decode cX12_match 59 = .ok (.lconst 0, 1) := by decide +kernel
theorem dX12_match_60 : decode cX12_match 60 = .ok (.aload_n 0, 1) := by decide +kernel
theorem dX12_match_61 : decode cX12_match 61 = .ok (.invokevirtual 401, 3) := by decide +kernel
theorem dX12_match_64 : decode cX12_match 64 = .ok (.i2l, 1) := by decide +kernel
theorem dX12_match_65 : decode cX12_match 65 = .ok (.invokestatic 138, 3) := by decide +kernel
theorem dX12_match_68 : decode cX12_match 68 = .ok (.ifCond .ne 6, 3) := by decide +kernel
theorem dX12_match_71 : decode cX12_match 71 = .ok (.bipush (-2), 2) := by decide +kernel
theorem dX12_match_73 : decode cX12_match 73 = .ok (.ireturn, 1) := by decide +kernel
theorem dX12_match_74 : decode cX12_match 74 = .ok (.aload_n 0, 1) := by decide +kernel
theorem dX12_match_75 : decode cX12_match 75 = .ok (.getfield 417, 3) := by decide +kernel
theorem dX12_match_78 : decode cX12_match 78 = .ok (.bipush 12, 2) := by decide +kernel
theorem dX12_match_80 : decode cX12_match 80 = .ok (.if_icmp .ne 6, 3) := by decide +kernel
theorem dX12_match_83 : decode cX12_match 83 = .ok (.bipush (-4), 2) := by decide +kernel
theorem dX12_match_85 : decode cX12_match 85 = .ok (.ireturn, 1) := by decide +kernel
theorem dX12_match_86 : decode cX12_match 86 = .ok (.aload_n 0, 1) := by decide +kernel
theorem dX12_match_87 : decode cX12_match 87 = .ok (.getfield 68, 3) := by decide +kernel
theorem dX12_match_90 : decode cX12_match 90 = .ok (.aload_n 0, 1) := by decide +kernel
theorem dX12_match_91 : decode cX12_match 91 = .ok (.getfield 417, 3) := by decide +kernel
theorem dX12_match_94 : decode cX12_match 94 = .ok (.iload_n 1, 1) := by decide +kernel
theorem dX12_match_95 : decode cX12_match 95 = .ok (.bipush 10, 2) := by decide +kernel
theorem dX12_match_97 : decode cX12_match 97 = .ok (.idiv, 1) := by decide +kernel
theorem dX12_match_98 : decode cX12_match 98 = .ok (.iastore, 1) := by decide +kernel
theorem dX12_match_99 : decode cX12_match 99 = .ok (.aload_n 0, 1) := by decide +kernel
theorem dX12_match_100 : decode cX12_match 100 = .ok (.getfield 71, 3) := by decide +kernel
theorem dX12_match_103 : decode cX12_match 103 = .ok (.aload_n 0, 1) := by decide +kernel
theorem dX12_match_104 : decode cX12_match 104 = .ok (.getfield 417, 3) := by decide +kernel
theorem dX12_match_107 : decode cX12_match 107 = .ok (.iload_n 1, 1) := by decide +kernel
theorem dX12_match_108 : decode cX12_match 108 = .ok (.bipush 10, 2) := by decide +kernel
theorem dX12_match_110 : decode cX12_match 110 = .ok (.irem, 1) := by decide +kernel
theorem dX12_match_111 : decode cX12_match 111 = .ok (.iastore, 1) := by decide +kernel
theorem dX12_match_112 : decode cX12_match 112 = .ok (.aload_n 0, 1) := by decide +kernel
theorem dX12_match_113 : decode cX12_match 113 = .ok (.getfield 74, 3) := by decide +kernel
theorem dX12_match_116 : decode cX12_match 116 = .ok (.aload_n 0, 1) := by decide +kernel
theorem dX12_match_117 : decode cX12_match 117 = .ok (.getfield 417, 3) := by decide +kernel
theorem dX12_match_120 : decode cX12_match 120 = .ok (.iload_n 2, 1) := by decide +kernel
theorem dX12_match_121 : decode cX12_match 121 = .ok (.bipush 10, 2) := by decide +kernel
theorem dX12_match_123 : decode cX12_match 123 = .ok (.idiv, 1) := by decide +kernel
theorem dX12_match_124 : decode cX12_match 124 = .ok (.iastore, 1) := by decide +kernel
theorem dX12_match_125 : decode cX12_match 125 = .ok (.aload_n 0, 1) := by decide +kernel
theorem dX12_match_126 : decode cX12_match 126 = .ok (.getfield 77, 3) := by decide +kernel
theorem dX12_match_129 : decode cX12_match 129 = .ok (.aload_n 0, 1) := by decide +kernel
theorem dX12_match_130 : decode cX12_match 130 = .ok (.getfield 417, 3) := by decide +kernel
theorem dX12_match_133 : decode cX12_match 133 = .ok (.iload_n 2, 1) := by decide +kernel
theorem dX12_match_134 : decode cX12_match 134 = .ok (.bipush 10, 2) := by decide +kernel
theorem dX12_match_136 : decode cX12_match 136 = .ok (.irem, 1) := by decide +kernel
theorem dX12_match_137 : decode cX12_match 137 = .ok (.iastore, 1) := by decide +kernel
theorem dX12_match_138 : decode cX12_match 138 = .ok (.aload_n 0, 1) := by decide +kernel
theorem dX12_match_139 : decode cX12_match 139 = .ok (.getfield 80, 3) := by decide +kernel
theorem dX12_match_142 : decode cX12_match 142 = .ok (.aload_n 0, 1) := by decide +kernel
theorem dX12_match_143 : decode cX12_match 143 = .ok (.getfield 417, 3) := by decide +kernel
theorem dX12_match_146 : decode cX12_match 146 = .ok (.iload_n 3, 1) := by decide +kernel
theorem dX12_match_147 : decode cX12_match 147 = .ok (.iastore, 1) := by decide +kernel
theorem dX12_match_148 : decode cX12_match 148 = .ok (.aload_n 0, 1) := by decide +kernel
theorem dX12_match_149 : decode cX12_match 149 = .ok (.dup, 1) := by decide +kernel
theorem dX12_match_150 : decode cX12_match 150 = .ok (.getfield 417, 3) := by decide +kernel
theorem dX12_match_153 : decode cX12_match 153 = .ok (.iconst 1, 1) := by decide +kernel
theorem dX12_match_154 : decode cX12_match 154 = .ok (.iadd, 1) := by decide +kernel
theorem dX12_match_155 : decode cX12_match 155 = .ok (.putfield 417, 3) := by decide +kernel
theorem dX12_match_158 : decode cX12_match 158 = .ok (.aload_n 0, 1) := by decide +kernel
theorem dX12_match_159 : decode cX12_match 159 = .ok (.getfield 417, 3) := by decide +kernel
theorem dX12_match_162 : decode cX12_match 162 = .ok (.iconst 1, 1) := by decide +kernel
theorem dX12_match_163 : decode cX12_match 163 = .ok (.isub, 1) := by decide +kernel
theorem dX12_match_164 : decode cX12_match 164 = .ok (.ireturn, 1) := by decide +kernel
theorem dX12_counts_0 : decode cX12_counts 0 = .ok (.aload_n 0, 1) := by decide +kernel
theorem dX12_counts_1 : decode cX12_counts 1 = .ok (.getfield 83, 3) := by decide +kernel
theorem dX12_counts_4 : decode cX12_counts 4 = .ok (.iload_n 1, 1) := by decide +kernel
theorem dX12_counts_5 : decode cX12_counts 5 = .ok (.dup2, 1) := by decide +kernel
theorem dX12_counts_6 : decode cX12_counts 6 = .ok (.iaload, 1) := by decide +kernel
theorem dX12_counts_7 : decode cX12_counts 7 = .ok (.iload_n 2, 1) := by decide +kernel
theorem dX12_counts_8 : decode cX12_counts 8 = .ok (.iload_n 3, 1) := by decide +kernel
theorem dX12_counts_9 : decode cX12_counts 9 = .ok (.if_icmp .le 7, 3) := by decide +kernel
theorem dX12_counts_12 : decode cX12_counts 12 = .ok (.iconst 3, 1) := by decide +kernel
theorem dX12_counts_13 : decode cX12_counts 13 = .ok (.goto 13, 3) := by decide +kernel
theorem dX12_counts_16 : decode cX12_counts 16 = .ok (.iload_n 2, 1) := by decide +kernel
theorem dX12_counts_17 : decode cX12_counts 17 = .ok (.iload_n 3, 1) := by decide +kernel
theorem dX12_counts_18 : decode cX12_counts 18 = .ok (.if_icmp .ne 7, 3) := by decide +kernel
theorem dX12_counts_21 : decode cX12_counts 21 = .ok (.iconst 1, 1) := by decide +kernel
theorem dX12_counts_22 : decode cX12_counts 22 = .ok (.goto 4, 3) := by decide +kernel
theorem dX12_counts_25 : decode cX12_counts 25 = .ok (.iconst 0, 1) := by decide +kernel
theorem dX12_counts_26 : decode cX12_counts 26 = .ok (.iadd, 1) := by decide +kernel
theorem dX12_counts_27 : decode cX12_counts 27 = .ok (.iastore, 1) := by decide +kernel
theorem dX12_counts_28 : decode cX12_counts 28 = .ok (.aload_n 0, 1) := by decide +kernel
theorem dX12_counts_29 : decode cX12_counts 29 = .ok (.getfield 86, 3) := by decide +kernel
theorem dX12_counts_32 : decode cX12_counts 32 = .ok (.iload_n 1, 1) := by decide +kernel
theorem dX12_counts_33 : decode cX12_counts 33 = .ok (.dup2, 1) := by decide +kernel
theorem dX12_counts_34 : decode cX12_counts 34 = .ok (.iaload, 1) := by decide +kernel
theorem dX12_counts_35 : decode cX12_counts 35 = .ok (.iload_n 2, 1) := by decide +kernel
theorem dX12_counts_36 : decode cX12_counts 36 = .ok (.iadd, 1) := by decide +kernel
theorem dX12_counts_37 : decode cX12_counts 37 = .ok (.iastore, 1) := by decide +kernel
theorem dX12_counts_38 : decode cX12_counts 38 = .ok (.aload_n 0, 1) := by decide +kernel
theorem dX12_counts_39 : decode cX12_counts 39 = .ok (.getfield 89, 3) := by decide +kernel
theorem dX12_counts_42 : decode cX12_counts 42 = .ok (.iload_n 1, 1) := by decide +kernel
theorem dX12_counts_43 : decode cX12_counts 43 = .ok (.dup2, 1) := by decide +kernel
theorem dX12_counts_44 : decode cX12_counts 44 = .ok (.iaload, 1) := by decide +kernel
theorem dX12_counts_45 : decode cX12_counts 45 = .ok (.iload_n 3, 1) := by decide +kernel
theorem dX12_counts_46 : decode cX12_counts 46 = .ok (.iadd, 1) := by decide +kernel
theorem dX12_counts_47 : decode cX12_counts 47 = .ok (.iastore, 1) := by decide +kernel
theorem dX12_counts_48 : decode cX12_counts 48 = .ok (.return_, 1) := by decide +kernel
theorem dX12_tables_0 : decode cX12_tables 0 = .ok (.aload_n 0, 1) := by decide +kernel
theorem dX12_tables_1 : decode cX12_tables 1 = .ok (.getfield 247, 3) := by decide +kernel
theorem dX12_tables_4 : decode cX12_tables 4 = .ok (.istore_n 2, 1) := by decide +kernel
theorem dX12_tables_5 : decode cX12_tables 5 = .ok (.aload_n 0, 1) := by decide +kernel
theorem dX12_tables_6 : decode cX12_tables 6 = .ok (.iload_n 1, 1) := by decide +kernel
theorem dX12_tables_7 : decode cX12_tables 7 = .ok (.putfield 247, 3) := by decide +kernel
theorem dX12_tables_10 : decode cX12_tables 10 = .ok (.aload_n 0, 1) := by decide +kernel
theorem dX12_tables_11 : decode cX12_tables 11 = .ok (.aload_n 0, 1) := by decide +kernel
theorem dX12_tables_12 : decode cX12_tables 12 = .ok (.invokevirtual 401, 3) := by decide +kernel
theorem dX12_tables_15 : decode cX12_tables 15 = .ok (.invokevirtual 404, 3) := by decide +kernel
theorem dX12_tables_18 : decode cX12_tables 18 = .ok (.istore_n 3, 1) := by decide +kernel
theorem dX12_tables_19 : decode cX12_tables 19 = .ok (.iconst 0, 1) := by decide +kernel
theorem dX12_tables_20 : decode cX12_tables 20 = .ok (.istore 4, 2) := by decide +kernel
theorem dX12_tables_22 : decode cX12_tables 22 = .ok (.iload 4, 2) := by decide +kernel
theorem dX12_tables_24 : decode cX12_tables 24 = .ok (.iconst 4, 1) := by decide +kernel
theorem dX12_tables_25 : decode cX12_tables 25 = .ok (.if_icmp .ge 33, 3) := by decide +kernel
theorem dX12_tables_28 : decode cX12_tables 28 = .ok (.aload_n 0, 1) := by decide +kernel
theorem dX12_tables_29 : decode cX12_tables 29 = .ok (.getfield 83, 3) := by decide +kernel
theorem dX12_tables_32 : decode cX12_tables 32 = .ok (.iload 4, 2) := by decide +kernel
theorem dX12_tables_34 : decode cX12_tables 34 = .ok (.iconst 0, 1) := by decide +kernel
theorem dX12_tables_35 : decode cX12_tables 35 = .ok (.iastore, 1) := by decide +kernel
theorem dX12_tables_36 : decode cX12_tables 36 = .ok (.aload_n 0, 1) := by decide +kernel
theorem dX12_tables_37 : decode cX12_tables 37 = .ok (.getfield 86, 3) := by decide +kernel
theorem dX12_tables_40 : decode cX12_tables 40 = .ok (.iload 4, 2) := by decide +kernel
theorem dX12_tables_42 : decode cX12_tables 42 = .ok (.iconst 0, 1) := by decide +kernel
theorem dX12_tables_43 : decode cX12_tables 43 = .ok (.iastore, 1) := by decide +kernel
theorem dX12_tables_44 : decode cX12_tables 44 = .ok (.aload_n 0, 1) := by decide +kernel
theorem dX12_tables_45 : decode cX12_tables 45 = .ok (.getfield 89, 3) := by decide +kernel
theorem dX12_tables_48 : decode cX12_tables 48 = .ok (.iload 4, 2) := by decide +kernel
theorem dX12_tables_50 : decode cX12_tables 50 = .ok (.iconst 0, 1) := by decide +kernel
theorem dX12_tables_51 : decode cX12_tables 51 = .ok (.iastore, 1) := by decide +kernel
theorem dX12_tables_52 : decode cX12_tables 52 = .ok (.iinc 4 1, 3) := by decide +kernel
theorem dX12_tables_55 : decode cX12_tables 55 = .ok (.goto (-33), 3) := by decide +kernel
theorem dX12_tables_58 : decode cX12_tables 58 = .ok (.iconst 0, 1) := by decide +kernel
theorem dX12_tables_59 : decode cX12_tables 59 = .ok (.istore 4, 2) := by decide +kernel
theorem dX12_tables_61 : decode cX12_tables 61 = .ok (.iload 4, 2) := by decide +kernel
theorem dX12_tables_63 : decode cX12_tables 63 = .ok (.aload_n 0, 1) := by decide +kernel
theorem dX12_tables_64 : decode cX12_tables 64 = .ok (.getfield 417, 3) := by decide +kernel
theorem dX12_tables_67 : decode cX12_tables 67 = .ok (.if_icmp .ge 161, 3) := by decide +kernel
theorem dX12_tables_70 : decode cX12_tables 70 = .ok (.aload_n 0, 1) := by decide +kernel
theorem dX12_tables_71 : decode cX12_tables 71 = .ok (.getfield 74, 3) := by decide +kernel
theorem dX12_tables_74 : decode cX12_tables 74 = .ok (.iload 4, 2) := by decide +kernel
theorem dX12_tables_76 : decode cX12_tables 76 = .ok (.iaload, 1) := by decide +kernel
theorem dX12_tables_77 : decode cX12_tables 77 = .ok (.istore 5, 2) := by decide +kernel
theorem dX12_tables_79 : decode cX12_tables 79 = .ok (.aload_n 0, 1) := by decide +kernel
theorem dX12_tables_80 : decode cX12_tables 80 = .ok (.getfield 77, 3) := by decide +kernel
theorem dX12_tables_83 : decode cX12_tables 83 = .ok (.iload 4, 2) := by decide +kernel
theorem dX12_tables_85 : decode cX12_tables 85 = .ok (.iaload, 1) := by decide +kernel
theorem dX12_tables_86 : decode cX12_tables 86 = .ok (.istore 6, 2) := by decide +kernel
theorem dX12_tables_88 : decode cX12_tables 88 = .ok (.iconst 0, 1) := by decide +kernel
theorem dX12_tables_89 : decode cX12_tables 89 = .ok (.istore 7, 2) := by decide +kernel
theorem dX12_tables_91 : decode cX12_tables 91 = .ok (.iload 7, 2) := by decide +kernel
theorem dX12_tables_93 : decode cX12_tables 93 = .ok (.aload_n 0, 1) := by decide +kernel
theorem dX12_tables_94 : decode cX12_tables 94 = .ok (.getfield 363, 3) := by decide +kernel
theorem dX12_tables_97 : decode cX12_tables 97 = .ok (.if_icmp .ge 95, 3) := by decide +kernel
theorem dX12_tables_100 : decode cX12_tables 100 = .ok (.aload_n 0, 1) := by decide +kernel
theorem dX12_tables_101 : decode cX12_tables 101 = .ok (.getfield 80, 3) := by decide +kernel
theorem dX12_tables_104 : decode cX12_tables 104 = .ok (.iload 4, 2) := by decide +kernel
theorem dX12_tables_106 : decode cX12_tables 106 = .ok (.iaload, 1) := by decide +kernel
theorem dX12_tables_107 : decode cX12_tables 107 = .ok (.iload 7, 2) := by decide +kernel
theorem dX12_tables_109 : decode cX12_tables 109 = .ok (.ishr, 1) := by decide +kernel
theorem dX12_tables_110 : decode cX12_tables 110 = .ok (.iconst 1, 1) := by decide +kernel
theorem dX12_tables_111 : decode cX12_tables 111 = .ok (.iand, 1) := by decide +kernel
theorem dX12_tables_112 : decode cX12_tables 112 = .ok (.ifCond .eq 74, 3) := by decide +kernel
theorem dX12_tables_115 : decode cX12_tables 115 = .ok (.iload_n 3, 1) := by decide +kernel
theorem dX12_tables_116 : decode cX12_tables 116 = .ok (.iload 7, 2) := by decide +kernel
theorem dX12_tables_118 : decode cX12_tables 118 = .ok (.ishr, 1) := by decide +kernel
theorem dX12_tables_119 : decode cX12_tables 119 = .ok (.iconst 1, 1) := by decide +kernel
theorem dX12_tables_120 : decode cX12_tables 120 = .ok (.iand, 1) := by decide +kernel
theorem dX12_tables_121 : decode cX12_tables 121 = .ok (.iconst 1, 1) := by decide +kernel
theorem dX12_tables_122 : decode cX12_tables 122 = .ok (.if_icmp .ne 6, 3) := by decide +kernel
theorem dX12_tables_125 : decode cX12_tables 125 = .ok (.goto 61, 3) := by decide +kernel
theorem dX12_tables_128 : decode cX12_tables 128 = .ok (.aload_n 0, 1) := by decide +kernel
theorem dX12_tables_129 : decode cX12_tables 129 = .ok (.getfield 23, 3) := by decide +kernel
theorem dX12_tables_132 : decode cX12_tables 132 = .ok (.aload_n 0, 1) := by decide +kernel
theorem dX12_tables_133 : decode cX12_tables 133 = .ok (.getfield 53, 3) := by decide +kernel
theorem dX12_tables_136 : decode cX12_tables 136 = .ok (.iload 7, 2) := by decide +kernel
theorem dX12_tables_138 : decode cX12_tables 138 = .ok (.iaload, 1) := by decide +kernel
theorem dX12_tables_139 : decode cX12_tables 139 = .ok (.iaload, 1) := by decide +kernel
theorem dX12_tables_140 : decode cX12_tables 140 = .ok (.istore 8, 2) := by decide +kernel
theorem dX12_tables_142 : decode cX12_tables 142 = .ok (.iload 5, 2) := by decide +kernel
theorem dX12_tables_144 : decode cX12_tables 144 = .ok (.iload 8, 2) := by decide +kernel
theorem dX12_tables_146 : decode cX12_tables 146 = .ok (.aload_n 0, 1) := by decide +kernel
theorem dX12_tables_147 : decode cX12_tables 147 = .ok (.getfield 68, 3) := by decide +kernel
theorem dX12_tables_150 : decode cX12_tables 150 = .ok (.iload 4, 2) := by decide +kernel
theorem dX12_tables_152 : decode cX12_tables 152 = .ok (.iaload, 1) := by decide +kernel
theorem dX12_tables_153 : decode cX12_tables 153 = .ok (.if_icmp .ne 7, 3) := by decide +kernel
theorem dX12_tables_156 : decode cX12_tables 156 = .ok (.iconst 1, 1) := by decide +kernel
theorem dX12_tables_157 : decode cX12_tables 157 = .ok (.goto 4, 3) := by decide +kernel
theorem dX12_tables_160 : decode cX12_tables 160 = .ok (.iconst 0, 1) := by decide +kernel
theorem dX12_tables_161 : decode cX12_tables 161 = .ok (.iadd, 1) := by decide +kernel
theorem dX12_tables_162 : decode cX12_tables 162 = .ok (.istore 5, 2) := by decide +kernel
theorem dX12_tables_164 : decode cX12_tables 164 = .ok (.iload 6, 2) := by decide +kernel
theorem dX12_tables_166 : decode cX12_tables 166 = .ok (.iload 8, 2) := by decide +kernel
theorem dX12_tables_168 : decode cX12_tables 168 = .ok (.aload_n 0, 1) := by decide +kernel
theorem dX12_tables_169 : decode cX12_tables 169 = .ok (.getfield 71, 3) := by decide +kernel
theorem dX12_tables_172 : decode cX12_tables 172 = .ok (.iload 4, 2) := by decide +kernel
theorem dX12_tables_174 : decode cX12_tables 174 = .ok (.iaload, 1) := by decide +kernel
theorem dX12_tables_175 : decode cX12_tables 175 = .ok (.if_icmp .ne 7, 3) := by decide +kernel
theorem dX12_tables_178 : decode cX12_tables 178 = .ok (.iconst 1, 1) := by decide +kernel
theorem dX12_tables_179 : decode cX12_tables 179 = .ok (.goto 4, 3) := by decide +kernel
theorem dX12_tables_182 : decode cX12_tables 182 = .ok (.iconst 0, 1) := by decide +kernel
theorem dX12_tables_183 : decode cX12_tables 183 = .ok (.iadd, 1) := by decide +kernel
theorem dX12_tables_184 : decode cX12_tables 184 = .ok (.istore 6, 2) := by decide +kernel
theorem dX12_tables_186 : decode cX12_tables 186 = .ok (.iinc 7 1, 3) := by decide +kernel
theorem dX12_tables_189 : decode cX12_tables 189 = .ok (.goto (-98), 3) := by decide +kernel
theorem dX12_tables_192 : decode cX12_tables 192 = .ok (.aload_n 0, 1) := by decide +kernel
theorem dX12_tables_193 : decode cX12_tables 193 = .ok (.aload_n 0, 1) := by decide +kernel
theorem dX12_tables_194 : decode cX12_tables 194 = .ok (.getfield 68, 3) := by decide +kernel
theorem dX12_tables_197 : decode cX12_tables 197 = .ok (.iload 4, 2) := by decide +kernel
theorem dX12_tables_199 : decode cX12_tables 199 = .ok (.iaload, 1) := by decide +kernel
theorem dX12_tables_200 : decode cX12_tables 200 = .ok (.iload 5, 2) := by decide +kernel
theorem dX12_tables_202 : decode cX12_tables 202 = .ok (.iload 6, 2) := by decide +kernel
theorem dX12_tables_204 : decode cX12_tables 204 = .ok (.invokevirtual 420, 3) := by decide +kernel
theorem dX12_tables_207 : decode cX12_tables 207 = .ok (.aload_n 0, 1) := by decide +kernel
theorem dX12_tables_208 : decode cX12_tables 208 = .ok (.aload_n 0, 1) := by decide +kernel
theorem dX12_tables_209 : decode cX12_tables 209 = .ok (.getfield 71, 3) := by decide +kernel
theorem dX12_tables_212 : decode cX12_tables 212 = .ok (.iload 4, 2) := by decide +kernel
theorem dX12_tables_214 : decode cX12_tables 214 = .ok (.iaload, 1) := by decide +kernel
theorem dX12_tables_215 : decode cX12_tables 215 = .ok (.iload 6, 2) := by decide +kernel
theorem dX12_tables_217 : decode cX12_tables 217 = .ok (.iload 5, 2) := by decide +kernel
theorem dX12_tables_219 : decode cX12_tables 219 = .ok (.invokevirtual 420, 3) := by decide +kernel
theorem dX12_tables_222 : decode cX12_tables 222 = .ok (.iinc 4 1, 3) := by decide +kernel
theorem dX12_tables_225 : decode cX12_tables 225 = .ok (.goto (-164), 3) := by decide +kernel
theorem dX12_tables_228 : decode cX12_tables 228 = .ok (.aload_n 0, 1) := by decide +kernel
theorem dX12_tables_229 : decode cX12_tables 229 = .ok (.iload_n 2, 1) := by decide +kernel
theorem dX12_tables_230 : decode cX12_tables 230 = .ok (.putfield 247, 3) := by decide +kernel
theorem dX12_tables_233 : decode cX12_tables 233 = .ok (.return_, 1) := by decide +kernel
theorem dX12_isAbove_0 : decode cX12_isAbove 0 = .ok (.aload_n 0, 1) := by decide +kernel
theorem dX12_isAbove_1 : decode cX12_isAbove 1 = .ok (.getfield 83, 3) := by decide +kernel
theorem dX12_isAbove_4 : decode cX12_isAbove 4 = .ok (.iload_n 1, 1) := by decide +kernel
theorem dX12_isAbove_5 : decode cX12_isAbove 5 = .ok (.iaload, 1) := by decide +kernel
theorem dX12_isAbove_6 : decode cX12_isAbove 6 = .ok (.aload_n 0, 1) := by decide +kernel
theorem dX12_isAbove_7 : decode cX12_isAbove 7 = .ok (.getfield 83, 3) := by decide +kernel
theorem dX12_isAbove_10 : decode cX12_isAbove 10 = .ok (.iload_n 2, 1) := by decide +kernel
theorem dX12_isAbove_11 : decode cX12_isAbove 11 = .ok (.iaload, 1) := by decide +kernel
theorem dX12_isAbove_12 : decode cX12_isAbove 12 = .ok (.if_icmp .eq 24, 3) := by decide +kernel
theorem dX12_isAbove_15 : decode cX12_isAbove 15 = .ok (.aload_n 0, 1) := by decide +kernel
theorem dX12_isAbove_16 : decode cX12_isAbove 16 = .ok (.getfield 83, 3) := by decide +kernel
theorem dX12_isAbove_19 : decode cX12_isAbove 19 = .ok (.iload_n 1, 1) := by decide +kernel
theorem dX12_isAbove_20 : decode cX12_isAbove 20 = .ok (.iaload, 1) := by decide +kernel
theorem dX12_isAbove_21 : decode cX12_isAbove 21 = .ok (.aload_n 0, 1) := by decide +kernel
theorem dX12_isAbove_22 : decode cX12_isAbove 22 = .ok (.getfield 83, 3) := by decide +kernel
theorem dX12_isAbove_25 : decode cX12_isAbove 25 = .ok (.iload_n 2, 1) := by decide +kernel
theorem dX12_isAbove_26 : decode cX12_isAbove 26 = .ok (.iaload, 1) := by decide +kernel
theorem dX12_isAbove_27 : decode cX12_isAbove 27 = .ok (.if_icmp .le 7, 3) := by decide +kernel
theorem dX12_isAbove_30 : decode cX12_isAbove 30 = .ok (.iconst 1, 1) := by decide +kernel
theorem dX12_isAbove_31 : decode cX12_isAbove 31 = .ok (.goto 4, 3) := by decide +kernel
theorem dX12_isAbove_34 : decode cX12_isAbove 34 = .ok (.iconst 0, 1) := by decide +kernel
theorem dX12_isAbove_35 : decode cX12_isAbove 35 = .ok (.ireturn, 1) := by decide +kernel
theorem dX12_isAbove_36 : decode cX12_isAbove 36 = .ok (.aload_n 0, 1) := by decide +kernel
theorem dX12_isAbove_37 : decode cX12_isAbove 37 = .ok (.getfield 86, 3) := by decide +kernel
theorem dX12_isAbove_40 : decode cX12_isAbove 40 = .ok (.iload_n 1, 1) := by decide +kernel
theorem dX12_isAbove_41 : decode cX12_isAbove 41 = .ok (.iaload, 1) := by decide +kernel
theorem dX12_isAbove_42 : decode cX12_isAbove 42 = .ok (.aload_n 0, 1) := by decide +kernel
theorem dX12_isAbove_43 : decode cX12_isAbove 43 = .ok (.getfield 89, 3) := by decide +kernel
theorem dX12_isAbove_46 : decode cX12_isAbove 46 = .ok (.iload_n 1, 1) := by decide +kernel
theorem dX12_isAbove_47 : decode cX12_isAbove 47 = .ok (.iaload, 1) := by decide +kernel
theorem dX12_isAbove_48 : decode cX12_isAbove 48 = .ok (.isub, 1) := by decide +kernel
theorem dX12_isAbove_49 : decode cX12_isAbove 49 = .ok (.istore_n 3, 1) := by decide +kernel
theorem dX12_isAbove_50 : decode cX12_isAbove 50 = .ok (.aload_n 0, 1) := by decide +kernel
theorem dX12_isAbove_51 : decode cX12_isAbove 51 = .ok (.getfield 86, 3) := by decide +kernel
theorem dX12_isAbove_54 : decode cX12_isAbove 54 = .ok (.iload_n 2, 1) := by decide +kernel
theorem dX12_isAbove_55 : decode cX12_isAbove 55 = .ok (.iaload, 1) := by decide +kernel
theorem dX12_isAbove_56 : decode cX12_isAbove 56 = .ok (.aload_n 0, 1) := by decide +kernel
theorem dX12_isAbove_57 : decode cX12_isAbove 57 = .ok (.getfield 89, 3) := by decide +kernel
theorem dX12_isAbove_60 : decode cX12_isAbove 60 = .ok (.iload_n 2, 1) := by decide +kernel
theorem dX12_isAbove_61 : decode cX12_isAbove 61 = .ok (.iaload, 1) := by decide +kernel
theorem dX12_isAbove_62 : decode cX12_isAbove 62 = .ok (.isub, 1) := by decide +kernel
theorem dX12_isAbove_63 : decode cX12_isAbove 63 = .ok (.istore 4, 2) := by decide +kernel
theorem dX12_isAbove_65 : decode cX12_isAbove 65 = .ok (.iload_n 3, 1) := by decide +kernel
theorem dX12_isAbove_66 : decode cX12_isAbove 66 = .ok (.iload 4, 2) := by decide +kernel
theorem dX12_isAbove_68 : decode cX12_isAbove 68 = .ok (.if_icmp .eq 17, 3) := by decide +kernel
theorem dX12_isAbove_71 : decode cX12_isAbove 71 = .ok (.iload_n 3, 1) := by decide +kernel
theorem dX12_isAbove_72 : decode cX12_isAbove 72 = .ok (.iload 4, 2) := by decide +kernel
theorem dX12_isAbove_74 : decode cX12_isAbove 74 = .ok (.if_icmp .le 7, 3) := by decide +kernel
theorem dX12_isAbove_77 : decode cX12_isAbove 77 = .ok (.iconst 1, 1) := by decide +kernel
theorem dX12_isAbove_78 : decode cX12_isAbove 78 = .ok (.goto 27, 3) := by decide +kernel
theorem dX12_isAbove_81 : decode cX12_isAbove 81 = .ok (.iconst 0, 1) := by decide +kernel
theorem dX12_isAbove_82 : decode cX12_isAbove 82 = .ok (.goto 23, 3) := by decide +kernel
theorem dX12_isAbove_85 : decode cX12_isAbove 85 = .ok (.aload_n 0, 1) := by decide +kernel
theorem dX12_isAbove_86 : decode cX12_isAbove 86 = .ok (.getfield 86, 3) := by decide +kernel
theorem dX12_isAbove_89 : decode cX12_isAbove 89 = .ok (.iload_n 1, 1) := by decide +kernel
theorem dX12_isAbove_90 : decode cX12_isAbove 90 = .ok (.iaload, 1) := by decide +kernel
theorem dX12_isAbove_91 : decode cX12_isAbove 91 = .ok (.aload_n 0, 1) := by decide +kernel
theorem dX12_isAbove_92 : decode cX12_isAbove 92 = .ok (.getfield 86, 3) := by decide +kernel
theorem dX12_isAbove_95 : decode cX12_isAbove 95 = .ok (.iload_n 2, 1) := by decide +kernel
theorem dX12_isAbove_96 : decode cX12_isAbove 96 = .ok (.iaload, 1) := by decide +kernel
theorem dX12_isAbove_97 : decode cX12_isAbove 97 = .ok (.if_icmp .le 7, 3) := by decide +kernel
theorem dX12_isAbove_100 : decode cX12_isAbove 100 = .ok (.iconst 1, 1) := by decide +kernel
theorem dX12_isAbove_101 : decode cX12_isAbove 101 = .ok (.goto 4, 3) := by decide +kernel
theorem dX12_isAbove_104 : decode cX12_isAbove 104 = .ok (.iconst 0, 1) := by decide +kernel
theorem dX12_isAbove_105 : decode cX12_isAbove 105 = .ok (.ireturn, 1) := by decide +kernel
theorem dX12_rankOf_0 : decode cX12_rankOf 0 = .ok (.iconst 0, 1) := by decide +kernel
theorem dX12_rankOf_1 : decode cX12_rankOf 1 = .ok (.istore_n 2, 1) := by decide +kernel
theorem dX12_rankOf_2 : decode cX12_rankOf 2 = .ok (.iconst 0, 1) := by decide +kernel
theorem dX12_rankOf_3 : decode cX12_rankOf 3 = .ok (.istore_n 3, 1) := by decide +kernel
theorem dX12_rankOf_4 : decode cX12_rankOf 4 = .ok (.iload_n 3, 1) := by decide +kernel
theorem dX12_rankOf_5 : decode cX12_rankOf 5 = .ok (.iconst 4, 1) := by decide +kernel
theorem dX12_rankOf_6 : decode cX12_rankOf 6 = .ok (.if_icmp .ge 26, 3) := by decide +kernel
theorem dX12_rankOf_9 : decode cX12_rankOf 9 = .ok (.iload_n 2, 1) := by decide +kernel
theorem dX12_rankOf_10 : decode cX12_rankOf 10 = .ok (.aload_n 0, 1) := by decide +kernel
theorem dX12_rankOf_11 : decode cX12_rankOf 11 = .ok (.iload_n 3, 1) := by decide +kernel
theorem dX12_rankOf_12 : decode cX12_rankOf 12 = .ok (.iload_n 1, 1) := by decide +kernel
theorem dX12_rankOf_13 : decode cX12_rankOf 13 = .ok (.invokevirtual 424, 3) := by decide +kernel
theorem dX12_rankOf_16 : decode cX12_rankOf 16 = .ok (.ifCond .eq 7, 3) := by decide +kernel
theorem dX12_rankOf_19 : decode cX12_rankOf 19 = .ok (.iconst 1, 1) := by decide +kernel
theorem dX12_rankOf_20 : decode cX12_rankOf 20 = .ok (.goto 4, 3) := by decide +kernel
theorem dX12_rankOf_23 : decode cX12_rankOf 23 = .ok (.iconst 0, 1) := by decide +kernel
theorem dX12_rankOf_24 : decode cX12_rankOf 24 = .ok (.iadd, 1) := by decide +kernel
theorem dX12_rankOf_25 : decode cX12_rankOf 25 = .ok (.istore_n 2, 1) := by decide +kernel
theorem dX12_rankOf_26 : decode cX12_rankOf 26 = .ok (.iinc 3 1, 3) := by decide +kernel
theorem dX12_rankOf_29 : decode cX12_rankOf 29 = .ok (.goto (-25), 3) := by decide +kernel
theorem dX12_rankOf_32 : decode cX12_rankOf 32 = .ok (.iload_n 2, 1) := by decide +kernel
theorem dX12_rankOf_33 : decode cX12_rankOf 33 = .ok (.ireturn, 1) := by decide +kernel
theorem dX12_table_0 : decode cX12_table 0 = .ok (.iload_n 1, 1) := by decide +kernel
theorem dX12_table_1 : decode cX12_table 1 = .ok (.invokestatic 313, 3) := by decide +kernel
theorem dX12_table_4 : decode cX12_table 4 = .ok (.ifCond .eq 27, 3) := by decide +kernel
theorem dX12_table_7 : decode cX12_table 7 = .ok (.iload_n 2, 1) := by decide +kernel
theorem dX12_table_8 : decode cX12_table 8 = .ok (.i2l, 1) := by decide +kernel
theorem dX12_table_9 : decode cX12_table 9 = .ok (.lconst 0, 1) := by decide +kernel
theorem dX12_table_10 : decode cX12_table 10 = .ok (.ldc2_w 146, 3) := by decide +kernel
theorem dX12_table_13 : decode cX12_table 13 = .ok (.invokestatic 138, 3) := by decide +kernel
theorem dX12_table_16 : decode cX12_table 16 = .ok (.ifCond .eq 15, 3) := by decide +kernel
theorem dX12_table_19 : decode cX12_table 19 = .ok (.iload_n 3, 1) := by decide +kernel
theorem dX12_table_20 : decode cX12_table 20 = .ok (.i2l, 1) := by decide +kernel
theorem dX12_table_21 : decode cX12_table 21 = .ok (.lconst 0, 1) := by decide +kernel
theorem dX12_table_22 : decode cX12_table 22 = .ok (.ldc2_w 146, 3) := by decide +kernel
theorem dX12_table_25 : decode cX12_table 25 = .ok (.invokestatic 138, 3) := by decide +kernel
theorem dX12_table_28 : decode cX12_table 28 = .ok (.ifCond .ne 6, 3) := by decide +kernel
theorem dX12_table_31 : decode cX12_table 31 = .ok (.bipush (-2), 2) := by decide +kernel
theorem dX12_table_33 : decode cX12_table 33 = .ok (.ireturn, 1) := by decide +kernel
theorem dX12_table_34 : decode cX12_table 34 = .ok (.aload_n 0, 1) := by decide +kernel
theorem dX12_table_35 : decode cX12_table 35 = .ok (.iload_n 1, 1) := by decide +kernel
theorem dX12_table_36 : decode cX12_table 36 = .ok (.invokevirtual 427, 3) := by decide +kernel
theorem dX12_table_39 : decode cX12_table 39 = .ok (.iload_n 3, 1) := by decide +kernel
theorem dX12_table_40 : decode cX12_table 40 = .ok (.ifCond .ne 12, 3) := by decide +kernel
theorem dX12_table_43 : decode cX12_table 43 = .ok (.aload_n 0, 1) := by decide +kernel
theorem dX12_table_44 : decode cX12_table 44 = .ok (.getfield 83, 3) := by decide +kernel
theorem dX12_table_47 : decode cX12_table 47 = .ok (.iload_n 2, 1) := by decide +kernel
theorem dX12_table_48 : decode cX12_table 48 = .ok (.iaload, 1) := by decide +kernel
theorem dX12_table_49 : decode cX12_table 49 = .ok (.goto 36, 3) := by decide +kernel
theorem dX12_table_52 : decode cX12_table 52 = .ok (.iload_n 3, 1) := by decide +kernel
theorem dX12_table_53 : decode cX12_table 53 = .ok (.iconst 1, 1) := by decide +kernel
theorem dX12_table_54 : decode cX12_table 54 = .ok (.if_icmp .ne 12, 3) := by decide +kernel
theorem dX12_table_57 : decode cX12_table 57 = .ok (.aload_n 0, 1) := by decide +kernel
theorem dX12_table_58 : decode cX12_table 58 = .ok (.getfield 86, 3) := by decide +kernel
theorem dX12_table_61 : decode cX12_table 61 = .ok (.iload_n 2, 1) := by decide +kernel
theorem dX12_table_62 : decode cX12_table 62 = .ok (.iaload, 1) := by decide +kernel
theorem dX12_table_63 : decode cX12_table 63 = .ok (.goto 22, 3) := by decide +kernel
theorem dX12_table_66 : decode cX12_table 66 = .ok (.iload_n 3, 1) := by decide +kernel
theorem dX12_table_67 : decode cX12_table 67 = .ok (.iconst 2, 1) := by decide +kernel
theorem dX12_table_68 : decode cX12_table 68 = .ok (.if_icmp .ne 12, 3) := by decide +kernel
theorem dX12_table_71 : decode cX12_table 71 = .ok (.aload_n 0, 1) := by decide +kernel
theorem dX12_table_72 : decode cX12_table 72 = .ok (.getfield 89, 3) := by decide +kernel
theorem dX12_table_75 : decode cX12_table 75 = .ok (.iload_n 2, 1) := by decide +kernel
theorem dX12_table_76 : decode cX12_table 76 = .ok (.iaload, 1) := by decide +kernel
theorem dX12_table_77 : decode cX12_table 77 = .ok (.goto 8, 3) := by decide +kernel
theorem dX12_table_80 : decode cX12_table 80 = .ok (.aload_n 0, 1) := by decide +kernel
theorem dX12_table_81 : decode cX12_table 81 = .ok (.iload_n 2, 1) := by decide +kernel
theorem dX12_table_82 : decode cX12_table 82 = .ok (.invokevirtual 431, 3) := by decide +kernel
theorem dX12_table_85 : decode cX12_table 85 = .ok (.ireturn, 1) := by decide +kernel
theorem dX12_ranks_0 : decode cX12_ranks 0 = .ok (.aload_n 0, 1) := by decide +kernel
theorem dX12_ranks_1 : decode cX12_ranks 1 = .ok (.iload_n 1, 1) := by decide +kernel
theorem dX12_ranks_2 : decode cX12_ranks 2 = .ok (.invokevirtual 427, 3) := by decide +kernel
theorem dX12_ranks_5 : decode cX12_ranks 5 = .ok (.iconst 0, 1) := by decide +kernel
theorem dX12_ranks_6 : decode cX12_ranks 6 = .ok (.istore_n 2, 1) := by decide +kernel
theorem dX12_ranks_7 : decode cX12_ranks 7 = .ok (.iconst 0, 1) := by decide +kernel
theorem dX12_ranks_8 : decode cX12_ranks 8 = .ok (.istore_n 3, 1) := by decide +kernel
theorem dX12_ranks_9 : decode cX12_ranks 9 = .ok (.iload_n 3, 1) := by decide +kernel
theorem dX12_ranks_10 : decode cX12_ranks 10 = .ok (.iconst 4, 1) := by decide +kernel
theorem dX12_ranks_11 : decode cX12_ranks 11 = .ok (.if_icmp .ge 20, 3) := by decide +kernel
theorem dX12_ranks_14 : decode cX12_ranks 14 = .ok (.bipush 10, 2) := by decide +kernel
theorem dX12_ranks_16 : decode cX12_ranks 16 = .ok (.iload_n 2, 1) := by decide +kernel
theorem dX12_ranks_17 : decode cX12_ranks 17 = .ok (.imul, 1) := by decide +kernel
theorem dX12_ranks_18 : decode cX12_ranks 18 = .ok (.aload_n 0, 1) := by decide +kernel
theorem dX12_ranks_19 : decode cX12_ranks 19 = .ok (.iload_n 3, 1) := by decide +kernel
theorem dX12_ranks_20 : decode cX12_ranks 20 = .ok (.invokevirtual 431, 3) := by decide +kernel
theorem dX12_ranks_23 : decode cX12_ranks 23 = .ok (.iadd, 1) := by decide +kernel
theorem dX12_ranks_24 : decode cX12_ranks 24 = .ok (.istore_n 2, 1) := by decide +kernel
theorem dX12_ranks_25 : decode cX12_ranks 25 = .ok (.iinc 3 1, 3) := by decide +kernel
theorem dX12_ranks_28 : decode cX12_ranks 28 = .ok (.goto (-19), 3) := by decide +kernel
theorem dX12_ranks_31 : decode cX12_ranks 31 = .ok (.iload_n 2, 1) := by decide +kernel
theorem dX12_ranks_32 : decode cX12_ranks 32 = .ok (.ireturn, 1) := by decide +kernel
theorem dX12_season_0 : decode cX12_season 0 = .ok (.iload_n 1, 1) := by decide +kernel
theorem dX12_season_1 : decode cX12_season 1 = .ok (.invokestatic 407, 3) := by decide +kernel
theorem dX12_season_4 : decode cX12_season 4 = .ok (.ifCond .ne 6, 3) := by decide +kernel
theorem dX12_season_7 : decode cX12_season 7 = .ok (.bipush (-2), 2) := by decide +kernel
theorem dX12_season_9 : decode cX12_season 9 = .ok (.ireturn, 1) := by decide +kernel
theorem dX12_season_10 : decode cX12_season 10 = .ok (.aload_n 0, 1) := by decide +kernel
theorem dX12_season_11 : decode cX12_season 11 = .ok (.iload_n 1, 1) := by decide +kernel
theorem dX12_season_12 : decode cX12_season 12 = .ok (.invokevirtual 410, 3) := by decide +kernel
theorem dX12_season_15 : decode cX12_season 15 = .ok (.istore_n 2, 1) := by decide +kernel
theorem dX12_season_16 : decode cX12_season 16 = .ok (.iload_n 2, 1) := by decide +kernel
theorem dX12_season_17 : decode cX12_season 17 = .ok (.ifCond .eq 5, 3) := by decide +kernel
theorem dX12_season_20 : decode cX12_season 20 = .ok (.iload_n 2, 1) := by decide +kernel
theorem dX12_season_21 : decode cX12_season 21 = .ok (.ireturn, 1) := by decide +kernel
theorem dX12_season_22 : decode cX12_season 22 = .ok (.iconst 0, 1) := by decide +kernel
theorem dX12_season_23 : decode cX12_season 23 = .ok (.istore_n 3, 1) := by decide +kernel
theorem dX12_season_24 : decode cX12_season 24 = .ok (.aload_n 0, 1) := by decide +kernel
theorem dX12_season_25 : decode cX12_season 25 = .ok (.aload_n 0, 1) := by decide +kernel
theorem dX12_season_26 : decode cX12_season 26 = .ok (.getfield 111, 3) := by decide +kernel
theorem dX12_season_29 : decode cX12_season 29 = .ok (.bipush 40, 2) := by decide +kernel
theorem dX12_season_31 : decode cX12_season 31 = .ok (.iload_n 1, 1) := by decide +kernel
theorem dX12_season_32 : decode cX12_season 32 = .ok (.imul, 1) := by decide +kernel
theorem dX12_season_33 : decode cX12_season 33 = .ok (.iaload, 1) := by decide +kernel
theorem dX12_season_34 : decode cX12_season 34 = .ok (.invokevirtual 434, 3) := by decide +kernel
theorem dX12_season_37 : decode cX12_season 37 = .ok (.istore 4, 2) := by decide +kernel
theorem dX12_season_39 : decode cX12_season 39 = .ok (.iconst 1, 1) := by decide +kernel
theorem dX12_season_40 : decode cX12_season 40 = .ok (.istore 5, 2) := by decide +kernel
theorem dX12_season_42 : decode cX12_season 42 = .ok (.iload 5, 2) := by decide +kernel
theorem dX12_season_44 : decode cX12_season 44 = .ok (.aload_n 0, 1) := by decide +kernel
theorem dX12_season_45 : decode cX12_season 45 = .ok (.getfield 108, 3) := by decide +kernel
theorem dX12_season_48 : decode cX12_season 48 = .ok (.iload_n 1, 1) := by decide +kernel
theorem dX12_season_49 : decode cX12_season 49 = .ok (.iaload, 1) := by decide +kernel
theorem dX12_season_50 : decode cX12_season 50 = .ok (.if_icmp .ge 46, 3) := by decide +kernel
theorem dX12_season_53 : decode cX12_season 53 = .ok (.aload_n 0, 1) := by decide +kernel
theorem dX12_season_54 : decode cX12_season 54 = .ok (.aload_n 0, 1) := by decide +kernel
theorem dX12_season_55 : decode cX12_season 55 = .ok (.getfield 111, 3) := by decide +kernel
theorem dX12_season_58 : decode cX12_season 58 = .ok (.bipush 40, 2) := by decide +kernel
theorem dX12_season_60 : decode cX12_season 60 = .ok (.iload_n 1, 1) := by decide +kernel
theorem dX12_season_61 : decode cX12_season 61 = .ok (.imul, 1) := by decide +kernel
theorem dX12_season_62 : decode cX12_season 62 = .ok (.iload 5, 2) := by decide +kernel
theorem dX12_season_64 : decode cX12_season 64 = .ok (.iadd, 1) := by decide +kernel
theorem dX12_season_65 : decode cX12_season 65 = .ok (.iaload, 1) := by decide +kernel
theorem dX12_season_66 : decode cX12_season 66 = .ok (.invokevirtual 434, 3) := by decide +kernel
theorem dX12_season_69 : decode cX12_season 69 = .ok (.istore 6, 2) := by decide +kernel
theorem dX12_season_71 : decode cX12_season 71 = .ok (.iload_n 3, 1) := by decide +kernel
theorem dX12_season_72 : decode cX12_season 72 = .ok (.iload 6, 2) := by decide +kernel
theorem dX12_season_74 : decode cX12_season 74 = .ok (.iload 4, 2) := by decide +kernel
theorem dX12_season_76 : decode cX12_season 76 = .ok (.if_icmp .ne 7, 3) := by decide +kernel
theorem dX12_season_79 : decode cX12_season 79 = .ok (.iconst 0, 1) := by decide +kernel
theorem dX12_season_80 : decode cX12_season 80 = .ok (.goto 4, 3) := by decide +kernel
theorem dX12_season_83 : decode cX12_season 83 = .ok (.iconst 1, 1) := by decide +kernel
theorem dX12_season_84 : decode cX12_season 84 = .ok (.iadd, 1) := by decide +kernel
theorem dX12_season_85 : decode cX12_season 85 = .ok (.istore_n 3, 1) := by decide +kernel
theorem dX12_season_86 : decode cX12_season 86 = .ok (.iload 6, 2) := by decide +kernel
theorem dX12_season_88 : decode cX12_season 88 = .ok (.istore 4, 2) := by decide +kernel
theorem dX12_season_90 : decode cX12_season 90 = .ok (.iinc 5 1, 3) := by decide +kernel
theorem dX12_season_93 : decode cX12_season 93 = .ok (.goto (-51), 3) := by decide +kernel
theorem dX12_season_96 : decode cX12_season 96 = .ok (.iload_n 3, 1) := by decide +kernel
theorem dX12_season_97 : decode cX12_season 97 = .ok (.ireturn, 1) := by decide +kernel
theorem dX12_stand_0 : decode cX12_stand 0 = .ok (.iload_n 1, 1) := by decide +kernel
theorem dX12_stand_1 : decode cX12_stand 1 = .ok (.i2l, 1) := by decide +kernel
theorem dX12_stand_2 : decode cX12_stand 2 = .ok (.lconst 0, 1) := by decide +kernel
theorem dX12_stand_3 : decode cX12_stand 3 = .ok (.ldc2_w 146, 3) := by decide +kernel
theorem dX12_stand_6 : decode cX12_stand 6 = .ok (.invokestatic 138, 3) := by decide +kernel
theorem dX12_stand_9 : decode cX12_stand 9 = .ok (.ifCond .eq 24, 3) := by decide +kernel
theorem dX12_stand_12 : decode cX12_stand 12 = .ok (.iload_n 2, 1) := by decide +kernel
theorem dX12_stand_13 : decode cX12_stand 13 = .ok (.invokestatic 313, 3) := by decide +kernel
theorem dX12_stand_16 : decode cX12_stand 16 = .ok (.ifCond .eq 17, 3) := by decide +kernel
theorem dX12_stand_19 : decode cX12_stand 19 = .ok (.iload_n 3, 1) := by decide +kernel
theorem dX12_stand_20 : decode cX12_stand 20 = .ok (.i2l, 1) := by decide +kernel
theorem dX12_stand_21 : decode cX12_stand 21 = .ok (.lconst 0, 1) := by decide +kernel
theorem dX12_stand_22 : decode cX12_stand 22 = .ok (.aload_n 0, 1) := by decide +kernel
theorem dX12_stand_23 : decode cX12_stand 23 = .ok (.invokevirtual 401, 3) := by decide +kernel
theorem dX12_stand_26 : decode cX12_stand 26 = .ok (.i2l, 1) := by decide +kernel
theorem dX12_stand_27 : decode cX12_stand 27 = .ok (.invokestatic 138, 3) := by decide +kernel
theorem dX12_stand_30 : decode cX12_stand 30 = .ok (.ifCond .ne 6, 3) := by decide +kernel
theorem dX12_stand_33 : decode cX12_stand 33 = .ok (.bipush (-2), 2) := by decide +kernel
theorem dX12_stand_35 : decode cX12_stand 35 = .ok (.ireturn, 1) := by decide +kernel
theorem dX12_stand_36 : decode cX12_stand 36 = .ok (.aload_n 0, 1) := by decide +kernel
theorem dX12_stand_37 : decode cX12_stand 37 = .ok (.getfield 247, 3) := by decide +kernel
theorem dX12_stand_40 : decode cX12_stand 40 = .ok (.istore 4, 2) := by decide +kernel
theorem dX12_stand_42 : decode cX12_stand 42 = .ok (.aload_n 0, 1) := by decide +kernel
theorem dX12_stand_43 : decode cX12_stand 43 = .ok (.iload_n 1, 1) := by decide +kernel
theorem dX12_stand_44 : decode cX12_stand 44 = .ok (.putfield 319, 3) := by decide +kernel
theorem dX12_stand_47 : decode cX12_stand 47 = .ok (.aload_n 0, 1) := by decide +kernel
theorem dX12_stand_48 : decode cX12_stand 48 = .ok (.iload_n 2, 1) := by decide +kernel
theorem dX12_stand_49 : decode cX12_stand 49 = .ok (.aload_n 0, 1) := by decide +kernel
theorem dX12_stand_50 : decode cX12_stand 50 = .ok (.getfield 247, 3) := by decide +kernel
theorem dX12_stand_53 : decode cX12_stand 53 = .ok (.isub, 1) := by decide +kernel
theorem dX12_stand_54 : decode cX12_stand 54 = .ok (.iconst 2, 1) := by decide +kernel
theorem dX12_stand_55 : decode cX12_stand 55 = .ok (.idiv, 1) := by decide +kernel
theorem dX12_stand_56 : decode cX12_stand 56 = .ok (.putfield 316, 3) := by decide +kernel
theorem dX12_stand_59 : decode cX12_stand 59 = .ok (.aload_n 0, 1) := by decide +kernel
theorem dX12_stand_60 : decode cX12_stand 60 = .ok (.iload_n 2, 1) := by decide +kernel
theorem dX12_stand_61 : decode cX12_stand 61 = .ok (.putfield 247, 3) := by decide +kernel
theorem dX12_stand_64 : decode cX12_stand 64 = .ok (.iconst 0, 1) := by decide +kernel
theorem dX12_stand_65 : decode cX12_stand 65 = .ok (.istore 5, 2) := by decide +kernel
theorem dX12_stand_67 : decode cX12_stand 67 = .ok (.iconst 0, 1) := by decide +kernel
theorem dX12_stand_68 : decode cX12_stand 68 = .ok (.istore 6, 2) := by decide +kernel
theorem dX12_stand_70 : decode cX12_stand 70 = .ok (.iload 6, 2) := by decide +kernel
theorem dX12_stand_72 : decode cX12_stand 72 = .ok (.aload_n 0, 1) := by decide +kernel
theorem dX12_stand_73 : decode cX12_stand 73 = .ok (.getfield 363, 3) := by decide +kernel
theorem dX12_stand_76 : decode cX12_stand 76 = .ok (.if_icmp .ge 48, 3) := by decide +kernel
theorem dX12_stand_79 : decode cX12_stand 79 = .ok (.iload 5, 2) := by decide +kernel
theorem dX12_stand_81 : decode cX12_stand 81 = .ok (.iload_n 3, 1) := by decide +kernel
theorem dX12_stand_82 : decode cX12_stand 82 = .ok (.iload 6, 2) := by decide +kernel
theorem dX12_stand_84 : decode cX12_stand 84 = .ok (.ishr, 1) := by decide +kernel
theorem dX12_stand_85 : decode cX12_stand 85 = .ok (.iconst 1, 1) := by decide +kernel
theorem dX12_stand_86 : decode cX12_stand 86 = .ok (.iand, 1) := by decide +kernel
theorem dX12_stand_87 : decode cX12_stand 87 = .ok (.iconst 1, 1) := by decide +kernel
theorem dX12_stand_88 : decode cX12_stand 88 = .ok (.if_icmp .ne 26, 3) := by decide +kernel
theorem dX12_stand_91 : decode cX12_stand 91 = .ok (.aload_n 0, 1) := by decide +kernel
theorem dX12_stand_92 : decode cX12_stand 92 = .ok (.getfield 23, 3) := by decide +kernel
theorem dX12_stand_95 : decode cX12_stand 95 = .ok (.aload_n 0, 1) := by decide +kernel
theorem dX12_stand_96 : decode cX12_stand 96 = .ok (.getfield 53, 3) := by decide +kernel
theorem dX12_stand_99 : decode cX12_stand 99 = .ok (.iload 6, 2) := by decide +kernel
theorem dX12_stand_101 : decode cX12_stand 101 = .ok (.iaload, 1) := by decide +kernel
theorem dX12_stand_102 : decode cX12_stand 102 = .ok (.iaload, 1) := by decide +kernel
theorem dX12_stand_103 : decode cX12_stand 103 = .ok (.iload_n 1, 1) := by decide +kernel
theorem dX12_stand_104 : decode cX12_stand 104 = .ok (.if_icmp .ne 10, 3) := by decide +kernel
theorem dX12_stand_107 : decode cX12_stand 107 = .ok (.iconst 1, 1) := by decide +kernel
theorem dX12_stand_108 : decode cX12_stand 108 = .ok (.iload 6, 2) := by decide +kernel
theorem dX12_stand_110 : decode cX12_stand 110 = .ok (.ishl, 1) := by decide +kernel
theorem dX12_stand_111 : decode cX12_stand 111 = .ok (.goto 4, 3) := by decide +kernel
theorem dX12_stand_114 : decode cX12_stand 114 = .ok (.iconst 0, 1) := by decide +kernel
theorem dX12_stand_115 : decode cX12_stand 115 = .ok (.ior, 1) := by decide +kernel
theorem dX12_stand_116 : decode cX12_stand 116 = .ok (.istore 5, 2) := by decide +kernel
theorem dX12_stand_118 : decode cX12_stand 118 = .ok (.iinc 6 1, 3) := by decide +kernel
theorem dX12_stand_121 : decode cX12_stand 121 = .ok (.goto (-51), 3) := by decide +kernel
theorem dX12_stand_124 : decode cX12_stand 124 = .ok (.aload_n 0, 1) := by decide +kernel
theorem dX12_stand_125 : decode cX12_stand 125 = .ok (.iload 5, 2) := by decide +kernel
theorem dX12_stand_127 : decode cX12_stand 127 = .ok (.invokevirtual 404, 3) := by decide +kernel
theorem dX12_stand_130 : decode cX12_stand 130 = .ok (.istore 6, 2) := by decide +kernel
theorem dX12_stand_132 : decode cX12_stand 132 = .ok (.aload_n 0, 1) := by decide +kernel
theorem dX12_stand_133 : decode cX12_stand 133 = .ok (.iconst 0, 1) := by decide +kernel
theorem dX12_stand_134 : decode cX12_stand 134 = .ok (.putfield 316, 3) := by decide +kernel
theorem dX12_stand_137 : decode cX12_stand 137 = .ok (.aload_n 0, 1) := by decide +kernel
theorem dX12_stand_138 : decode cX12_stand 138 = .ok (.iload 4, 2) := by decide +kernel
theorem dX12_stand_140 : decode cX12_stand 140 = .ok (.putfield 247, 3) := by decide +kernel
theorem dX12_stand_143 : decode cX12_stand 143 = .ok (.iload 6, 2) := by decide +kernel
theorem dX12_stand_145 : decode cX12_stand 145 = .ok (.ireturn, 1) := by decide +kernel
theorem dX12_shown_0 : decode cX12_shown 0 = .ok (.iload_n 1, 1) := by decide +kernel
theorem dX12_shown_1 : decode cX12_shown 1 = .ok (.i2l, 1) := by decide +kernel
theorem dX12_shown_2 : decode cX12_shown 2 = .ok (.lconst 0, 1) := by decide +kernel
theorem dX12_shown_3 : decode cX12_shown 3 = .ok (.ldc2_w 437, 3) := by decide +kernel
theorem dX12_shown_6 : decode cX12_shown 6 = .ok (.invokestatic 138, 3) := by decide +kernel
theorem dX12_shown_9 : decode cX12_shown 9 = .ok (.ifCond .eq 15, 3) := by decide +kernel
theorem dX12_shown_12 : decode cX12_shown 12 = .ok (.iload_n 2, 1) := by decide +kernel
theorem dX12_shown_13 : decode cX12_shown 13 = .ok (.i2l, 1) := by decide +kernel
theorem dX12_shown_14 : decode cX12_shown 14 = .ok (.lconst 0, 1) := by decide +kernel
theorem dX12_shown_15 : decode cX12_shown 15 = .ok (.ldc2_w 146, 3) := by decide +kernel
theorem dX12_shown_18 : decode cX12_shown 18 = .ok (.invokestatic 138, 3) := by decide +kernel
theorem dX12_shown_21 : decode cX12_shown 21 = .ok (.ifCond .ne 6, 3) := by decide +kernel
theorem dX12_shown_24 : decode cX12_shown 24 = .ok (.bipush (-2), 2) := by decide +kernel
theorem dX12_shown_26 : decode cX12_shown 26 = .ok (.ireturn, 1) := by decide +kernel
theorem dX12_shown_27 : decode cX12_shown 27 = .ok (.aload_n 0, 1) := by decide +kernel
theorem dX12_shown_28 : decode cX12_shown 28 = .ok (.getfield 439, 3) := by decide +kernel
theorem dX12_shown_31 : decode cX12_shown 31 = .ok (.bipush 40, 2) := by decide +kernel
theorem dX12_shown_33 : decode cX12_shown 33 = .ok (.if_icmp .ne 6, 3) := by decide +kernel
theorem dX12_shown_36 : decode cX12_shown 36 = .ok (.bipush (-4), 2) := by decide +kernel
theorem dX12_shown_38 : decode cX12_shown 38 = .ok (.ireturn, 1) := by decide +kernel
theorem dX12_shown_39 : decode cX12_shown 39 = .ok (.aload_n 0, 1) := by decide +kernel
theorem dX12_shown_40 : decode cX12_shown 40 = .ok (.getfield 92, 3) := by decide +kernel
theorem dX12_shown_43 : decode cX12_shown 43 = .ok (.aload_n 0, 1) := by decide +kernel
theorem dX12_shown_44 : decode cX12_shown 44 = .ok (.getfield 439, 3) := by decide +kernel
theorem dX12_shown_47 : decode cX12_shown 47 = .ok (.iload_n 1, 1) := by decide +kernel
theorem dX12_shown_48 : decode cX12_shown 48 = .ok (.iastore, 1) := by decide +kernel
theorem dX12_shown_49 : decode cX12_shown 49 = .ok (.aload_n 0, 1) := by decide +kernel
theorem dX12_shown_50 : decode cX12_shown 50 = .ok (.getfield 95, 3) := by decide +kernel
theorem dX12_shown_53 : decode cX12_shown 53 = .ok (.aload_n 0, 1) := by decide +kernel
theorem dX12_shown_54 : decode cX12_shown 54 = .ok (.getfield 439, 3) := by decide +kernel
theorem dX12_shown_57 : decode cX12_shown 57 = .ok (.iload_n 2, 1) := by decide +kernel
theorem dX12_shown_58 : decode cX12_shown 58 = .ok (.iastore, 1) := by decide +kernel
theorem dX12_shown_59 : decode cX12_shown 59 = .ok (.aload_n 0, 1) := by decide +kernel
theorem dX12_shown_60 : decode cX12_shown 60 = .ok (.dup, 1) := by decide +kernel
theorem dX12_shown_61 : decode cX12_shown 61 = .ok (.getfield 439, 3) := by decide +kernel
theorem dX12_shown_64 : decode cX12_shown 64 = .ok (.iconst 1, 1) := by decide +kernel
theorem dX12_shown_65 : decode cX12_shown 65 = .ok (.iadd, 1) := by decide +kernel
theorem dX12_shown_66 : decode cX12_shown 66 = .ok (.putfield 439, 3) := by decide +kernel
theorem dX12_shown_69 : decode cX12_shown 69 = .ok (.aload_n 0, 1) := by decide +kernel
theorem dX12_shown_70 : decode cX12_shown 70 = .ok (.getfield 439, 3) := by decide +kernel
theorem dX12_shown_73 : decode cX12_shown 73 = .ok (.iconst 1, 1) := by decide +kernel
theorem dX12_shown_74 : decode cX12_shown 74 = .ok (.isub, 1) := by decide +kernel
theorem dX12_shown_75 : decode cX12_shown 75 = .ok (.ireturn, 1) := by decide +kernel
theorem dX12_bitsOf_0 : decode cX12_bitsOf 0 = .ok (.iconst 0, 1) := by decide +kernel
theorem dX12_bitsOf_1 : decode cX12_bitsOf 1 = .ok (.istore_n 1, 1) := by decide +kernel
theorem dX12_bitsOf_2 : decode cX12_bitsOf 2 = .ok (.iload_n 0, 1) := by decide +kernel
theorem dX12_bitsOf_3 : decode cX12_bitsOf 3 = .ok (.istore_n 2, 1) := by decide +kernel
theorem dX12_bitsOf_4 : decode cX12_bitsOf 4 = .ok (.iload_n 2, 1) := by decide +kernel
theorem dX12_bitsOf_5 : decode cX12_bitsOf 5 = .ok (.ifCond .eq 15, 3) := by decide +kernel
theorem dX12_bitsOf_8 : decode cX12_bitsOf 8 = .ok (.iinc 1 1, 3) := by decide +kernel
theorem dX12_bitsOf_11 : decode cX12_bitsOf 11 = .ok (.iload_n 2, 1) := by decide +kernel
theorem dX12_bitsOf_12 : decode cX12_bitsOf 12 = .ok (.iload_n 2, 1) := by decide +kernel
theorem dX12_bitsOf_13 : decode cX12_bitsOf 13 = .ok (.iconst 1, 1) := by decide +kernel
theorem dX12_bitsOf_14 : decode cX12_bitsOf 14 = .ok (.isub, 1) := by decide +kernel
theorem dX12_bitsOf_15 : decode cX12_bitsOf 15 = .ok (.iand, 1) := by decide +kernel
theorem dX12_bitsOf_16 : decode cX12_bitsOf 16 = .ok (.istore_n 2, 1) := by decide +kernel
theorem dX12_bitsOf_17 : decode cX12_bitsOf 17 = .ok (.goto (-13), 3) := by decide +kernel
theorem dX12_bitsOf_20 : decode cX12_bitsOf 20 = .ok (.iload_n 1, 1) := by decide +kernel
theorem dX12_bitsOf_21 : decode cX12_bitsOf 21 = .ok (.ireturn, 1) := by decide +kernel
theorem dX12_split_0 : decode cX12_split 0 = .ok (.iconst (-1), 1) := by decide +kernel
theorem dX12_split_1 : decode cX12_split 1 = .ok (.istore_n 1, 1) := by decide +kernel
theorem dX12_split_2 : decode cX12_split 2 = .ok (.iconst 0, 1) := by decide +kernel
theorem dX12_split_3 : decode cX12_split 3 = .ok (.istore_n 2, 1) := by decide +kernel
theorem dX12_split_4 : decode cX12_split 4 = .ok (.iload_n 2, 1) := by decide +kernel
theorem dX12_split_5 : decode cX12_split 5 = .ok (.bipush 64, 2) := by decide +kernel
theorem dX12_split_7 : decode cX12_split 7 = .ok (.if_icmp .ge 123, 3) := by decide +kernel
theorem dX12_split_10 : decode cX12_split 10 = .ok (.iload_n 1, 1) := by decide +kernel
theorem dX12_split_11 : decode cX12_split 11 = .ok (.iconst (-1), 1) := by decide +kernel
theorem dX12_split_12 : decode cX12_split 12 = .ok (.if_icmp .eq 14, 3) := by decide +kernel
theorem dX12_split_15 : decode cX12_split 15 = .ok (.iload_n 2, 1) := by decide +kernel
theorem dX12_split_16 : decode cX12_split 16 = .ok (.invokestatic 442, 3) := by decide +kernel
theorem dX12_split_19 : decode cX12_split 19 = .ok (.iload_n 1, 1) := by decide +kernel
theorem dX12_split_20 : decode cX12_split 20 = .ok (.invokestatic 442, 3) := by decide +kernel
theorem dX12_split_23 : decode cX12_split 23 = .ok (.if_icmp .ge 7, 3) := by decide +kernel
theorem dX12_split_26 : decode cX12_split 26 = .ok (.iconst 1, 1) := by decide +kernel
theorem dX12_split_27 : decode cX12_split 27 = .ok (.goto 4, 3) := by decide +kernel
theorem dX12_split_30 : decode cX12_split 30 = .ok (.iconst 0, 1) := by decide +kernel
theorem dX12_split_31 : decode cX12_split 31 = .ok (.istore_n 3, 1) := by decide +kernel
theorem dX12_split_32 : decode cX12_split 32 = .ok (.iconst 0, 1) := by decide +kernel
theorem dX12_split_33 : decode cX12_split 33 = .ok (.istore 4, 2) := by decide +kernel
theorem dX12_split_35 : decode cX12_split 35 = .ok (.iload 4, 2) := by decide +kernel
theorem dX12_split_37 : decode cX12_split 37 = .ok (.aload_n 0, 1) := by decide +kernel
theorem dX12_split_38 : decode cX12_split 38 = .ok (.getfield 439, 3) := by decide +kernel
theorem dX12_split_41 : decode cX12_split 41 = .ok (.if_icmp .ge 77, 3) := by decide +kernel
theorem dX12_split_44 : decode cX12_split 44 = .ok (.iload_n 3, 1) := by decide +kernel
theorem dX12_split_45 : decode cX12_split 45 = .ok (.ifCond .eq 73, 3) := by decide +kernel
theorem dX12_split_48 : decode cX12_split 48 = .ok (.iconst 0, 1) := by decide +kernel
theorem dX12_split_49 : decode cX12_split 49 = .ok (.istore 5, 2) := by decide +kernel
theorem dX12_split_51 : decode cX12_split 51 = .ok (.iload 5, 2) := by decide +kernel
theorem dX12_split_53 : decode cX12_split 53 = .ok (.iload 4, 2) := by decide +kernel
theorem dX12_split_55 : decode cX12_split 55 = .ok (.if_icmp .ge 57, 3) := by decide +kernel
theorem dX12_split_58 : decode cX12_split 58 = .ok (.iload_n 3, 1) := by decide +kernel
theorem dX12_split_59 : decode cX12_split 59 = .ok (.ifCond .eq 53, 3) := by decide +kernel
theorem dX12_split_62 : decode cX12_split 62 = .ok (.aload_n 0, 1) := by decide +kernel
theorem dX12_split_63 : decode cX12_split 63 = .ok (.getfield 92, 3) := by decide +kernel
theorem dX12_split_66 : decode cX12_split 66 = .ok (.iload 4, 2) := by decide +kernel
theorem dX12_split_68 : decode cX12_split 68 = .ok (.iaload, 1) := by decide +kernel
theorem dX12_split_69 : decode cX12_split 69 = .ok (.iload_n 2, 1) := by decide +kernel
theorem dX12_split_70 : decode cX12_split 70 = .ok (.iand, 1) := by decide +kernel
theorem dX12_split_71 : decode cX12_split 71 = .ok (.aload_n 0, 1) := by decide +kernel
theorem dX12_split_72 : decode cX12_split 72 = .ok (.getfield 92, 3) := by decide +kernel
theorem dX12_split_75 : decode cX12_split 75 = .ok (.iload 5, 2) := by decide +kernel
theorem dX12_split_77 : decode cX12_split 77 = .ok (.iaload, 1) := by decide +kernel
theorem dX12_split_78 : decode cX12_split 78 = .ok (.iload_n 2, 1) := by decide +kernel
theorem dX12_split_79 : decode cX12_split 79 = .ok (.iand, 1) := by decide +kernel
theorem dX12_split_80 : decode cX12_split 80 = .ok (.if_icmp .ne 20, 3) := by decide +kernel
theorem dX12_split_83 : decode cX12_split 83 = .ok (.aload_n 0, 1) := by decide +kernel
theorem dX12_split_84 : decode cX12_split 84 = .ok (.getfield 95, 3) := by decide +kernel
theorem dX12_split_87 : decode cX12_split 87 = .ok (.iload 4, 2) := by decide +kernel
theorem dX12_split_89 : decode cX12_split 89 = .ok (.iaload, 1) := by decide +kernel
theorem dX12_split_90 : decode cX12_split 90 = .ok (.aload_n 0, 1) := by decide +kernel
theorem dX12_split_91 : decode cX12_split 91 = .ok (.getfield 95, 3) := by decide +kernel
theorem dX12_split_94 : decode cX12_split 94 = .ok (.iload 5, 2) := by decide +kernel
theorem dX12_split_96 : decode cX12_split 96 = .ok (.iaload, 1) := by decide +kernel
theorem dX12_split_97 : decode cX12_split 97 = .ok (.if_icmp .ne 7, 3) := by decide +kernel
theorem dX12_split_100 : decode cX12_split 100 = .ok (.iconst 1, 1) := by decide +kernel
theorem dX12_split_101 : decode cX12_split 101 = .ok (.goto 4, 3) := by decide +kernel
theorem dX12_split_104 : decode cX12_split 104 = .ok (.iconst 0, 1) := by decide +kernel
theorem dX12_split_105 : decode cX12_split 105 = .ok (.istore_n 3, 1) := by decide +kernel
theorem dX12_split_106 : decode cX12_split 106 = .ok (.iinc 5 1, 3) := by decide +kernel
theorem dX12_split_109 : decode cX12_split 109 = .ok (.goto (-58), 3) := by decide +kernel
theorem dX12_split_112 : decode cX12_split 112 = .ok (.iinc 4 1, 3) := by decide +kernel
theorem dX12_split_115 : decode cX12_split 115 = .ok (.goto (-80), 3) := by decide +kernel
theorem dX12_split_118 : decode cX12_split 118 = .ok (.iload_n 3, 1) := by decide +kernel
theorem dX12_split_119 : decode cX12_split 119 = .ok (.ifCond .eq 5, 3) := by decide +kernel
theorem dX12_split_122 : decode cX12_split 122 = .ok (.iload_n 2, 1) := by decide +kernel
theorem dX12_split_123 : decode cX12_split 123 = .ok (.istore_n 1, 1) := by decide +kernel
theorem dX12_split_124 : decode cX12_split 124 = .ok (.iinc 2 1, 3) := by decide +kernel
theorem dX12_split_127 : decode cX12_split 127 = .ok (.goto (-123), 3) := by decide +kernel
theorem dX12_split_130 : decode cX12_split 130 = .ok (.iload_n 1, 1) := by decide +kernel
theorem dX12_split_131 : decode cX12_split 131 = .ok (.ireturn, 1) := by decide +kernel
theorem dX12_image_0 : decode cX12_image 0 = .ok (.aload_n 0, 1) := by decide +kernel
theorem dX12_image_1 : decode cX12_image 1 = .ok (.iconst 1, 1) := by decide +kernel
theorem dX12_image_2 : decode cX12_image 2 = .ok (.putfield 445, 3) := by decide +kernel
theorem dX12_image_5 : decode cX12_image 5 = .ok (.aload_n 0, 1) := by decide +kernel
theorem dX12_image_6 : decode cX12_image 6 = .ok (.aload_n 0, 1) := by decide +kernel
theorem dX12_image_7 : decode cX12_image 7 = .ok (.getfield 135, 3) := by decide +kernel
theorem dX12_image_10 : decode cX12_image 10 = .ok (.putfield 448, 3) := by decide +kernel
theorem dX12_image_13 : decode cX12_image 13 = .ok (.aload_n 0, 1) := by decide +kernel
theorem dX12_image_14 : decode cX12_image 14 = .ok (.aload_n 0, 1) := by decide +kernel
theorem dX12_image_15 : decode cX12_image 15 = .ok (.getfield 247, 3) := by decide +kernel
theorem dX12_image_18 : decode cX12_image 18 = .ok (.putfield 451, 3) := by decide +kernel
theorem dX12_image_21 : decode cX12_image 21 = .ok (.aload_n 0, 1) := by decide +kernel
theorem dX12_image_22 : decode cX12_image 22 = .ok (.aload_n 0, 1) := by decide +kernel
theorem dX12_image_23 : decode cX12_image 23 = .ok (.getfield 303, 3) := by decide +kernel
theorem dX12_image_26 : decode cX12_image 26 = .ok (.putfield 454, 3) := by decide +kernel
theorem dX12_image_29 : decode cX12_image 29 = .ok (.iconst 0, 1) := by decide +kernel
theorem dX12_image_30 : decode cX12_image 30 = .ok (.istore_n 1, 1) := by decide +kernel
theorem dX12_image_31 : decode cX12_image 31 = .ok (.iload_n 1, 1) := by decide +kernel
theorem dX12_image_32 : decode cX12_image 32 = .ok (.aload_n 0, 1) := by decide +kernel
theorem dX12_image_33 : decode cX12_image 33 = .ok (.getfield 135, 3) := by decide +kernel
theorem dX12_image_36 : decode cX12_image 36 = .ok (.if_icmp .ge 77, 3) := by decide +kernel
theorem dX12_image_39 : decode cX12_image 39 = .ok (.aload_n 0, 1) := by decide +kernel
theorem dX12_image_40 : decode cX12_image 40 = .ok (.getfield 98, 3) := by decide +kernel
theorem dX12_image_43 : decode cX12_image 43 = .ok (.bipush 6, 2) := by decide +kernel
theorem dX12_image_45 : decode cX12_image 45 = .ok (.iload_n 1, 1) := by decide +kernel
theorem dX12_image_46 : decode cX12_image 46 = .ok (.imul, 1) := by decide +kernel
theorem dX12_image_47 : decode cX12_image 47 = .ok (.aload_n 0, 1) := by decide +kernel
theorem dX12_image_48 : decode cX12_image 48 = .ok (.getfield 26, 3) := by decide +kernel
theorem dX12_image_51 : decode cX12_image 51 = .ok (.iload_n 1, 1) := by decide +kernel
theorem dX12_image_52 : decode cX12_image 52 = .ok (.iaload, 1) := by decide +kernel
theorem dX12_image_53 : decode cX12_image 53 = .ok (.iastore, 1) := by decide +kernel
theorem dX12_image_54 : decode cX12_image 54 = .ok (.aload_n 0, 1) := by decide +kernel
theorem dX12_image_55 : decode cX12_image 55 = .ok (.getfield 98, 3) := by decide +kernel
theorem dX12_image_58 : decode cX12_image 58 = .ok (.bipush 6, 2) := by decide +kernel
theorem dX12_image_60 : decode cX12_image 60 = .ok (.iload_n 1, 1) := by decide +kernel
theorem dX12_image_61 : decode cX12_image 61 = .ok (.imul, 1) := by decide +kernel
theorem dX12_image_62 : decode cX12_image 62 = .ok (.iconst 1, 1) := by decide +kernel
theorem dX12_image_63 : decode cX12_image 63 = .ok (.iadd, 1) := by decide +kernel
theorem dX12_image_64 : decode cX12_image 64 = .ok (.aload_n 0, 1) := by decide +kernel
theorem dX12_image_65 : decode cX12_image 65 = .ok (.getfield 29, 3) := by decide +kernel
theorem dX12_image_68 : decode cX12_image 68 = .ok (.iload_n 1, 1) := by decide +kernel
theorem dX12_image_69 : decode cX12_image 69 = .ok (.iaload, 1) := by decide +kernel
theorem dX12_image_70 : decode cX12_image 70 = .ok (.iastore, 1) := by decide +kernel
theorem dX12_image_71 : decode cX12_image 71 = .ok (.iconst 0, 1) := by decide +kernel
theorem dX12_image_72 : decode cX12_image 72 = .ok (.istore_n 2, 1) := by decide +kernel
theorem dX12_image_73 : decode cX12_image 73 = .ok (.iload_n 2, 1) := by decide +kernel
theorem dX12_image_74 : decode cX12_image 74 = .ok (.iconst 4, 1) := by decide +kernel
theorem dX12_image_75 : decode cX12_image 75 = .ok (.if_icmp .ge 32, 3) := by decide +kernel
theorem dX12_image_78 : decode cX12_image 78 = .ok (.aload_n 0, 1) := by decide +kernel
theorem dX12_image_79 : decode cX12_image 79 = .ok (.getfield 98, 3) := by decide +kernel
theorem dX12_image_82 : decode cX12_image 82 = .ok (.bipush 6, 2) := by decide +kernel
theorem dX12_image_84 : decode cX12_image 84 = .ok (.iload_n 1, 1) := by decide +kernel
theorem dX12_image_85 : decode cX12_image 85 = .ok (.imul, 1) := by decide +kernel
theorem dX12_image_86 : decode cX12_image 86 = .ok (.iconst 2, 1) := by decide +kernel
theorem dX12_image_87 : decode cX12_image 87 = .ok (.iadd, 1) := by decide +kernel
theorem dX12_image_88 : decode cX12_image 88 = .ok (.iload_n 2, 1) := by decide +kernel
theorem dX12_image_89 : decode cX12_image 89 = .ok (.iadd, 1) := by decide +kernel
theorem dX12_image_90 : decode cX12_image 90 = .ok (.aload_n 0, 1) := by decide +kernel
theorem dX12_image_91 : decode cX12_image 91 = .ok (.getfield 32, 3) := by decide +kernel
theorem dX12_image_94 : decode cX12_image 94 = .ok (.iconst 4, 1) := by decide +kernel
theorem dX12_image_95 : decode cX12_image 95 = .ok (.iload_n 1, 1) := by decide +kernel
theorem dX12_image_96 : decode cX12_image 96 = .ok (.imul, 1) := by decide +kernel
theorem dX12_image_97 : decode cX12_image 97 = .ok (.iload_n 2, 1) := by decide +kernel
theorem dX12_image_98 : decode cX12_image 98 = .ok (.iadd, 1) := by decide +kernel
theorem dX12_image_99 : decode cX12_image 99 = .ok (.iaload, 1) := by decide +kernel
theorem dX12_image_100 : decode cX12_image 100 = .ok (.iastore, 1) := by decide +kernel
theorem dX12_image_101 : decode cX12_image 101 = .ok (.iinc 2 1, 3) := by decide +kernel
theorem dX12_image_104 : decode cX12_image 104 = .ok (.goto (-31), 3) := by decide +kernel
theorem dX12_image_107 : decode cX12_image 107 = .ok (.iinc 1 1, 3) := by decide +kernel
theorem dX12_image_110 : decode cX12_image 110 = .ok (.goto (-79), 3) := by decide +kernel
theorem dX12_image_113 : decode cX12_image 113 = .ok (.aload_n 0, 1) := by decide +kernel
theorem dX12_image_114 : decode cX12_image 114 = .ok (.getfield 247, 3) := by decide +kernel
theorem dX12_image_117 : decode cX12_image 117 = .ok (.ireturn, 1) := by decide +kernel
theorem dX12_back_0 : decode cX12_back 0 = .ok (.aload_n 0, 1) := by decide +kernel
theorem dX12_back_1 : decode cX12_back 1 = .ok (.getfield 445, 3) := by decide +kernel
theorem dX12_back_4 : decode cX12_back 4 = .ok (.ifCond .ne 6, 3) := by decide +kernel
theorem dX12_back_7 : decode cX12_back 7 = .ok (.bipush (-3), 2) := by decide +kernel
theorem dX12_back_9 : decode cX12_back 9 = .ok (.ireturn, 1) := by decide +kernel
theorem dX12_back_10 : decode cX12_back 10 = .ok (.aload_n 0, 1) := by decide +kernel
theorem dX12_back_11 : decode cX12_back 11 = .ok (.aload_n 0, 1) := by decide +kernel
theorem dX12_back_12 : decode cX12_back 12 = .ok (.getfield 451, 3) := by decide +kernel
theorem dX12_back_15 : decode cX12_back 15 = .ok (.putfield 247, 3) := by decide +kernel
theorem dX12_back_18 : decode cX12_back 18 = .ok (.aload_n 0, 1) := by decide +kernel
theorem dX12_back_19 : decode cX12_back 19 = .ok (.aload_n 0, 1) := by decide +kernel
theorem dX12_back_20 : decode cX12_back 20 = .ok (.getfield 454, 3) := by decide +kernel
theorem dX12_back_23 : decode cX12_back 23 = .ok (.putfield 303, 3) := by decide +kernel
theorem dX12_back_26 : decode cX12_back 26 = .ok (.iconst 0, 1) := by decide +kernel
theorem dX12_back_27 : decode cX12_back 27 = .ok (.istore_n 1, 1) := by decide +kernel
theorem dX12_back_28 : decode cX12_back 28 = .ok (.iload_n 1, 1) := by decide +kernel
theorem dX12_back_29 : decode cX12_back 29 = .ok (.aload_n 0, 1) := by decide +kernel
theorem dX12_back_30 : decode cX12_back 30 = .ok (.getfield 448, 3) := by decide +kernel
theorem dX12_back_33 : decode cX12_back 33 = .ok (.if_icmp .ge 77, 3) := by decide +kernel
theorem dX12_back_36 : decode cX12_back 36 = .ok (.aload_n 0, 1) := by decide +kernel
theorem dX12_back_37 : decode cX12_back 37 = .ok (.getfield 26, 3) := by decide +kernel
theorem dX12_back_40 : decode cX12_back 40 = .ok (.iload_n 1, 1) := by decide +kernel
theorem dX12_back_41 : decode cX12_back 41 = .ok (.aload_n 0, 1) := by decide +kernel
theorem dX12_back_42 : decode cX12_back 42 = .ok (.getfield 98, 3) := by decide +kernel
theorem dX12_back_45 : decode cX12_back 45 = .ok (.bipush 6, 2) := by decide +kernel
theorem dX12_back_47 : decode cX12_back 47 = .ok (.iload_n 1, 1) := by decide +kernel
theorem dX12_back_48 : decode cX12_back 48 = .ok (.imul, 1) := by decide +kernel
theorem dX12_back_49 : decode cX12_back 49 = .ok (.iaload, 1) := by decide +kernel
theorem dX12_back_50 : decode cX12_back 50 = .ok (.iastore, 1) := by decide +kernel
theorem dX12_back_51 : decode cX12_back 51 = .ok (.aload_n 0, 1) := by decide +kernel
theorem dX12_back_52 : decode cX12_back 52 = .ok (.getfield 29, 3) := by decide +kernel
theorem dX12_back_55 : decode cX12_back 55 = .ok (.iload_n 1, 1) := by decide +kernel
theorem dX12_back_56 : decode cX12_back 56 = .ok (.aload_n 0, 1) := by decide +kernel
theorem dX12_back_57 : decode cX12_back 57 = .ok (.getfield 98, 3) := by decide +kernel
theorem dX12_back_60 : decode cX12_back 60 = .ok (.bipush 6, 2) := by decide +kernel
theorem dX12_back_62 : decode cX12_back 62 = .ok (.iload_n 1, 1) := by decide +kernel
theorem dX12_back_63 : decode cX12_back 63 = .ok (.imul, 1) := by decide +kernel
theorem dX12_back_64 : decode cX12_back 64 = .ok (.iconst 1, 1) := by decide +kernel
theorem dX12_back_65 : decode cX12_back 65 = .ok (.iadd, 1) := by decide +kernel
theorem dX12_back_66 : decode cX12_back 66 = .ok (.iaload, 1) := by decide +kernel
theorem dX12_back_67 : decode cX12_back 67 = .ok (.iastore, 1) := by decide +kernel
theorem dX12_back_68 : decode cX12_back 68 = .ok (.iconst 0, 1) := by decide +kernel
theorem dX12_back_69 : decode cX12_back 69 = .ok (.istore_n 2, 1) := by decide +kernel
theorem dX12_back_70 : decode cX12_back 70 = .ok (.iload_n 2, 1) := by decide +kernel
theorem dX12_back_71 : decode cX12_back 71 = .ok (.iconst 4, 1) := by decide +kernel
theorem dX12_back_72 : decode cX12_back 72 = .ok (.if_icmp .ge 32, 3) := by decide +kernel
theorem dX12_back_75 : decode cX12_back 75 = .ok (.aload_n 0, 1) := by decide +kernel
theorem dX12_back_76 : decode cX12_back 76 = .ok (.getfield 32, 3) := by decide +kernel
theorem dX12_back_79 : decode cX12_back 79 = .ok (.iconst 4, 1) := by decide +kernel
theorem dX12_back_80 : decode cX12_back 80 = .ok (.iload_n 1, 1) := by decide +kernel
theorem dX12_back_81 : decode cX12_back 81 = .ok (.imul, 1) := by decide +kernel
theorem dX12_back_82 : decode cX12_back 82 = .ok (.iload_n 2, 1) := by decide +kernel
theorem dX12_back_83 : decode cX12_back 83 = .ok (.iadd, 1) := by decide +kernel
theorem dX12_back_84 : decode cX12_back 84 = .ok (.aload_n 0, 1) := by decide +kernel
theorem dX12_back_85 : decode cX12_back 85 = .ok (.getfield 98, 3) := by decide +kernel
theorem dX12_back_88 : decode cX12_back 88 = .ok (.bipush 6, 2) := by decide +kernel
theorem dX12_back_90 : decode cX12_back 90 = .ok (.iload_n 1, 1) := by decide +kernel
theorem dX12_back_91 : decode cX12_back 91 = .ok (.imul, 1) := by decide +kernel
theorem dX12_back_92 : decode cX12_back 92 = .ok (.iconst 2, 1) := by decide +kernel
theorem dX12_back_93 : decode cX12_back 93 = .ok (.iadd, 1) := by decide +kernel
theorem dX12_back_94 : decode cX12_back 94 = .ok (.iload_n 2, 1) := by decide +kernel
theorem dX12_back_95 : decode cX12_back 95 = .ok (.iadd, 1) := by decide +kernel
theorem dX12_back_96 : decode cX12_back 96 = .ok (.iaload, 1) := by decide +kernel
theorem dX12_back_97 : decode cX12_back 97 = .ok (.iastore, 1) := by decide +kernel
theorem dX12_back_98 : decode cX12_back 98 = .ok (.iinc 2 1, 3) := by decide +kernel
theorem dX12_back_101 : decode cX12_back 101 = .ok (.goto (-31), 3) := by decide +kernel
theorem dX12_back_104 : decode cX12_back 104 = .ok (.iinc 1 1, 3) := by decide +kernel
theorem dX12_back_107 : decode cX12_back 107 = .ok (.goto (-79), 3) := by decide +kernel
theorem dX12_back_110 : decode cX12_back 110 = .ok (.aload_n 0, 1) := by decide +kernel
theorem dX12_back_111 : decode cX12_back 111 = .ok (.getfield 247, 3) := by decide +kernel
theorem dX12_back_114 : decode cX12_back 114 = .ok (.ireturn, 1) := by decide +kernel
theorem dX12_count_0 : decode cX12_count 0 = .ok (.iload_n 1, 1) := by decide +kernel
theorem dX12_count_1 : decode cX12_count 1 = .ok (.tableswitch 105 0 9 #[55, 60, 65, 70, 75, 80, 85, 90, 95, 100], 55) := by decide +kernel
theorem dX12_count_56 : decode cX12_count 56 = .ok (.aload_n 0, 1) := by decide +kernel
theorem dX12_count_57 : decode cX12_count 57 = .ok (.getfield 135, 3) := by decide +kernel
theorem dX12_count_60 : decode cX12_count 60 = .ok (.ireturn, 1) := by decide +kernel
theorem dX12_count_61 : decode cX12_count 61 = .ok (.aload_n 0, 1) := by decide +kernel
theorem dX12_count_62 : decode cX12_count 62 = .ok (.getfield 343, 3) := by decide +kernel
theorem dX12_count_65 : decode cX12_count 65 = .ok (.ireturn, 1) := by decide +kernel
theorem dX12_count_66 : decode cX12_count 66 = .ok (.aload_n 0, 1) := by decide +kernel
theorem dX12_count_67 : decode cX12_count 67 = .ok (.getfield 358, 3) := by decide +kernel
theorem dX12_count_70 : decode cX12_count 70 = .ok (.ireturn, 1) := by decide +kernel
theorem dX12_count_71 : decode cX12_count 71 = .ok (.aload_n 0, 1) := by decide +kernel
theorem dX12_count_72 : decode cX12_count 72 = .ok (.getfield 363, 3) := by decide +kernel
theorem dX12_count_75 : decode cX12_count 75 = .ok (.ireturn, 1) := by decide +kernel
theorem dX12_count_76 : decode cX12_count 76 = .ok (.aload_n 0, 1) := by decide +kernel
theorem dX12_count_77 : decode cX12_count 77 = .ok (.getfield 417, 3) := by decide +kernel
theorem dX12_count_80 : decode cX12_count 80 = .ok (.ireturn, 1) := by decide +kernel
theorem dX12_count_81 : decode cX12_count 81 = .ok (.aload_n 0, 1) := by decide +kernel
theorem dX12_count_82 : decode cX12_count 82 = .ok (.getfield 439, 3) := by decide +kernel
theorem dX12_count_85 : decode cX12_count 85 = .ok (.ireturn, 1) := by decide +kernel
theorem dX12_count_86 : decode cX12_count 86 = .ok (.aload_n 0, 1) := by decide +kernel
theorem dX12_count_87 : decode cX12_count 87 = .ok (.getfield 130, 3) := by decide +kernel
theorem dX12_count_90 : decode cX12_count 90 = .ok (.ireturn, 1) := by decide +kernel
theorem dX12_count_91 : decode cX12_count 91 = .ok (.aload_n 0, 1) := by decide +kernel
theorem dX12_count_92 : decode cX12_count 92 = .ok (.getfield 164, 3) := by decide +kernel
theorem dX12_count_95 : decode cX12_count 95 = .ok (.ireturn, 1) := by decide +kernel
theorem dX12_count_96 : decode cX12_count 96 = .ok (.aload_n 0, 1) := by decide +kernel
theorem dX12_count_97 : decode cX12_count 97 = .ok (.getfield 303, 3) := by decide +kernel
theorem dX12_count_100 : decode cX12_count 100 = .ok (.ireturn, 1) := by decide +kernel
theorem dX12_count_101 : decode cX12_count 101 = .ok (.aload_n 0, 1) := by decide +kernel
theorem dX12_count_102 : decode cX12_count 102 = .ok (.getfield 247, 3) := by decide +kernel
theorem dX12_count_105 : decode cX12_count 105 = .ok (.ireturn, 1) := by decide +kernel
theorem dX12_count_106 : decode cX12_count 106 = .ok (.bipush (-2), 2) := by decide +kernel
theorem dX12_count_108 : decode cX12_count 108 = .ok (.ireturn, 1) := by decide +kernel
theorem dX12_isSheet_0 : decode cX12_isSheet 0 = .ok (.iload_n 0, 1) := by decide +kernel
theorem dX12_isSheet_1 : decode cX12_isSheet 1 = .ok (.i2l, 1) := by decide +kernel
theorem dX12_isSheet_2 : decode cX12_isSheet 2 = .ok (.lconst 0, 1) := by decide +kernel
theorem dX12_isSheet_3 : decode cX12_isSheet 3 = .ok (.ldc2_w 146, 3) := by decide +kernel
theorem dX12_isSheet_6 : decode cX12_isSheet 6 = .ok (.invokestatic 138, 3) := by decide +kernel
theorem dX12_isSheet_9 : decode cX12_isSheet 9 = .ok (.ireturn, 1) := by decide +kernel
theorem dX12_sheet_0 : decode cX12_sheet 0 = .ok (.iload_n 1, 1) := by decide +kernel
theorem dX12_sheet_1 : decode cX12_sheet 1 = .ok (.invokestatic 407, 3) := by decide +kernel
theorem dX12_sheet_4 : decode cX12_sheet 4 = .ok (.ifCond .eq 27, 3) := by decide +kernel
theorem dX12_sheet_7 : decode cX12_sheet 7 = .ok (.iload_n 2, 1) := by decide +kernel
theorem dX12_sheet_8 : decode cX12_sheet 8 = .ok (.i2l, 1) := by decide +kernel
theorem dX12_sheet_9 : decode cX12_sheet 9 = .ok (.ldc2_w 198, 3) := by decide +kernel
theorem dX12_sheet_12 : decode cX12_sheet 12 = .ok (.ldc2_w 309, 3) := by decide +kernel
theorem dX12_sheet_15 : decode cX12_sheet 15 = .ok (.invokestatic 138, 3) := by decide +kernel
theorem dX12_sheet_18 : decode cX12_sheet 18 = .ok (.ifCond .eq 13, 3) := by decide +kernel
theorem dX12_sheet_21 : decode cX12_sheet 21 = .ok (.iload_n 2, 1) := by decide +kernel
theorem dX12_sheet_22 : decode cX12_sheet 22 = .ok (.ifCond .lt 12, 3) := by decide +kernel
theorem dX12_sheet_25 : decode cX12_sheet 25 = .ok (.iload_n 3, 1) := by decide +kernel
theorem dX12_sheet_26 : decode cX12_sheet 26 = .ok (.bipush 40, 2) := by decide +kernel
theorem dX12_sheet_28 : decode cX12_sheet 28 = .ok (.if_icmp .le 6, 3) := by decide +kernel
theorem dX12_sheet_31 : decode cX12_sheet 31 = .ok (.bipush (-2), 2) := by decide +kernel
theorem dX12_sheet_33 : decode cX12_sheet 33 = .ok (.ireturn, 1) := by decide +kernel
theorem dX12_sheet_34 : decode cX12_sheet 34 = .ok (.iload_n 2, 1) := by decide +kernel
theorem dX12_sheet_35 : decode cX12_sheet 35 = .ok (.ifCond .lt 10, 3) := by decide +kernel
theorem dX12_sheet_38 : decode cX12_sheet 38 = .ok (.iload_n 3, 1) := by decide +kernel
theorem dX12_sheet_39 : decode cX12_sheet 39 = .ok (.ifCond .ge 6, 3) := by decide +kernel
theorem dX12_sheet_42 : decode cX12_sheet 42 = .ok (.bipush (-14), 2) := by decide +kernel
theorem dX12_sheet_44 : decode cX12_sheet 44 = .ok (.ireturn, 1) := by decide +kernel
theorem dX12_sheet_45 : decode cX12_sheet 45 = .ok (.aload_n 0, 1) := by decide +kernel
theorem dX12_sheet_46 : decode cX12_sheet 46 = .ok (.getfield 101, 3) := by decide +kernel
theorem dX12_sheet_49 : decode cX12_sheet 49 = .ok (.iload_n 1, 1) := by decide +kernel
theorem dX12_sheet_50 : decode cX12_sheet 50 = .ok (.iload_n 2, 1) := by decide +kernel
theorem dX12_sheet_51 : decode cX12_sheet 51 = .ok (.ifCond .lt 7, 3) := by decide +kernel
theorem dX12_sheet_54 : decode cX12_sheet 54 = .ok (.iconst 1, 1) := by decide +kernel
theorem dX12_sheet_55 : decode cX12_sheet 55 = .ok (.goto 4, 3) := by decide +kernel
theorem dX12_sheet_58 : decode cX12_sheet 58 = .ok (.iconst 0, 1) := by decide +kernel
theorem dX12_sheet_59 : decode cX12_sheet 59 = .ok (.bastore, 1) := by decide +kernel
theorem dX12_sheet_60 : decode cX12_sheet 60 = .ok (.aload_n 0, 1) := by decide +kernel
theorem dX12_sheet_61 : decode cX12_sheet 61 = .ok (.getfield 105, 3) := by decide +kernel
theorem dX12_sheet_64 : decode cX12_sheet 64 = .ok (.iload_n 1, 1) := by decide +kernel
theorem dX12_sheet_65 : decode cX12_sheet 65 = .ok (.iload_n 2, 1) := by decide +kernel
theorem dX12_sheet_66 : decode cX12_sheet 66 = .ok (.iastore, 1) := by decide +kernel
theorem dX12_sheet_67 : decode cX12_sheet 67 = .ok (.aload_n 0, 1) := by decide +kernel
theorem dX12_sheet_68 : decode cX12_sheet 68 = .ok (.getfield 108, 3) := by decide +kernel
theorem dX12_sheet_71 : decode cX12_sheet 71 = .ok (.iload_n 1, 1) := by decide +kernel
theorem dX12_sheet_72 : decode cX12_sheet 72 = .ok (.iload_n 3, 1) := by decide +kernel
theorem dX12_sheet_73 : decode cX12_sheet 73 = .ok (.iastore, 1) := by decide +kernel
theorem dX12_sheet_74 : decode cX12_sheet 74 = .ok (.iconst 0, 1) := by decide +kernel
theorem dX12_sheet_75 : decode cX12_sheet 75 = .ok (.istore 4, 2) := by decide +kernel
theorem dX12_sheet_77 : decode cX12_sheet 77 = .ok (.iload 4, 2) := by decide +kernel
theorem dX12_sheet_79 : decode cX12_sheet 79 = .ok (.iload_n 3, 1) := by decide +kernel
theorem dX12_sheet_80 : decode cX12_sheet 80 = .ok (.if_icmp .ge 26, 3) := by decide +kernel
theorem dX12_sheet_83 : decode cX12_sheet 83 = .ok (.iload_n 2, 1) := by decide +kernel
theorem dX12_sheet_84 : decode cX12_sheet 84 = .ok (.ifCond .lt 22, 3) := by decide +kernel
theorem dX12_sheet_87 : decode cX12_sheet 87 = .ok (.aload_n 0, 1) := by decide +kernel
theorem dX12_sheet_88 : decode cX12_sheet 88 = .ok (.getfield 111, 3) := by decide +kernel
theorem dX12_sheet_91 : decode cX12_sheet 91 = .ok (.bipush 40, 2) := by decide +kernel
theorem dX12_sheet_93 : decode cX12_sheet 93 = .ok (.iload_n 1, 1) := by decide +kernel
theorem dX12_sheet_94 : decode cX12_sheet 94 = .ok (.imul, 1) := by decide +kernel
theorem dX12_sheet_95 : decode cX12_sheet 95 = .ok (.iload 4, 2) := by decide +kernel
theorem dX12_sheet_97 : decode cX12_sheet 97 = .ok (.iadd, 1) := by decide +kernel
theorem dX12_sheet_98 : decode cX12_sheet 98 = .ok (.iconst 0, 1) := by decide +kernel
theorem dX12_sheet_99 : decode cX12_sheet 99 = .ok (.iastore, 1) := by decide +kernel
theorem dX12_sheet_100 : decode cX12_sheet 100 = .ok (.iinc 4 1, 3) := by decide +kernel
theorem dX12_sheet_103 : decode cX12_sheet 103 = .ok (.goto (-26), 3) := by decide +kernel
theorem dX12_sheet_106 : decode cX12_sheet 106 = .ok (.iconst 1, 1) := by decide +kernel
theorem dX12_sheet_107 : decode cX12_sheet 107 = .ok (.ireturn, 1) := by decide +kernel
theorem dX12_cell_0 : decode cX12_cell 0 = .ok (.iload_n 1, 1) := by decide +kernel
theorem dX12_cell_1 : decode cX12_cell 1 = .ok (.invokestatic 407, 3) := by decide +kernel
theorem dX12_cell_4 : decode cX12_cell 4 = .ok (.ifCond .ne 6, 3) := by decide +kernel
theorem dX12_cell_7 : decode cX12_cell 7 = .ok (.bipush (-2), 2) := by decide +kernel
theorem dX12_cell_9 : decode cX12_cell 9 = .ok (.ireturn, 1) := by decide +kernel
theorem dX12_cell_10 : decode cX12_cell 10 = .ok (.aload_n 0, 1) := by decide +kernel
theorem dX12_cell_11 : decode cX12_cell 11 = .ok (.getfield 101, 3) := by decide +kernel
theorem dX12_cell_14 : decode cX12_cell 14 = .ok (.iload_n 1, 1) := by decide +kernel
theorem dX12_cell_15 : decode cX12_cell 15 = .ok (.baload, 1) := by decide +kernel
theorem dX12_cell_16 : decode cX12_cell 16 = .ok (.ifCond .ne 6, 3) := by decide +kernel
theorem dX12_cell_19 : decode cX12_cell 19 = .ok (.bipush (-11), 2) := by decide +kernel
theorem dX12_cell_21 : decode cX12_cell 21 = .ok (.ireturn, 1) := by decide +kernel
theorem dX12_cell_22 : decode cX12_cell 22 = .ok (.iload_n 2, 1) := by decide +kernel
theorem dX12_cell_23 : decode cX12_cell 23 = .ok (.i2l, 1) := by decide +kernel
theorem dX12_cell_24 : decode cX12_cell 24 = .ok (.lconst 0, 1) := by decide +kernel
theorem dX12_cell_25 : decode cX12_cell 25 = .ok (.aload_n 0, 1) := by decide +kernel
theorem dX12_cell_26 : decode cX12_cell 26 = .ok (.getfield 108, 3) := by decide +kernel
theorem dX12_cell_29 : decode cX12_cell 29 = .ok (.iload_n 1, 1) := by decide +kernel
theorem dX12_cell_30 : decode cX12_cell 30 = .ok (.iaload, 1) := by decide +kernel
theorem dX12_cell_31 : decode cX12_cell 31 = .ok (.iconst 1, 1) := by decide +kernel
theorem dX12_cell_32 : decode cX12_cell 32 = .ok (.isub, 1) := by decide +kernel
theorem dX12_cell_33 : decode cX12_cell 33 = .ok (.i2l, 1) := by decide +kernel
theorem dX12_cell_34 : decode cX12_cell 34 = .ok (.invokestatic 138, 3) := by decide +kernel
theorem dX12_cell_37 : decode cX12_cell 37 = .ok (.ifCond .ne 6, 3) := by decide +kernel
theorem dX12_cell_40 : decode cX12_cell 40 = .ok (.bipush (-12), 2) := by decide +kernel
theorem dX12_cell_42 : decode cX12_cell 42 = .ok (.ireturn, 1) := by decide +kernel
theorem dX12_cell_43 : decode cX12_cell 43 = .ok (.aload_n 0, 1) := by decide +kernel
theorem dX12_cell_44 : decode cX12_cell 44 = .ok (.getfield 111, 3) := by decide +kernel
theorem dX12_cell_47 : decode cX12_cell 47 = .ok (.bipush 40, 2) := by decide +kernel
theorem dX12_cell_49 : decode cX12_cell 49 = .ok (.iload_n 1, 1) := by decide +kernel
theorem dX12_cell_50 : decode cX12_cell 50 = .ok (.imul, 1) := by decide +kernel
theorem dX12_cell_51 : decode cX12_cell 51 = .ok (.iload_n 2, 1) := by decide +kernel
theorem dX12_cell_52 : decode cX12_cell 52 = .ok (.iadd, 1) := by decide +kernel
theorem dX12_cell_53 : decode cX12_cell 53 = .ok (.aload_n 0, 1) := by decide +kernel
theorem dX12_cell_54 : decode cX12_cell 54 = .ok (.getfield 105, 3) := by decide +kernel
theorem dX12_cell_57 : decode cX12_cell 57 = .ok (.iload_n 1, 1) := by decide +kernel
theorem dX12_cell_58 : decode cX12_cell 58 = .ok (.iaload, 1) := by decide +kernel
theorem dX12_cell_59 : decode cX12_cell 59 = .ok (.ifCond .ne 8, 3) := by decide +kernel
theorem dX12_cell_62 : decode cX12_cell 62 = .ok (.iload_n 3, 1) := by decide +kernel
theorem dX12_cell_63 : decode cX12_cell 63 = .ok (.i2b, 1) := by decide +kernel
theorem dX12_cell_64 : decode cX12_cell 64 = .ok (.goto 19, 3) := by decide +kernel
theorem dX12_cell_67 : decode cX12_cell 67 = .ok (.aload_n 0, 1) := by decide +kernel
theorem dX12_cell_68 : decode cX12_cell 68 = .ok (.getfield 105, 3) := by decide +kernel
theorem dX12_cell_71 : decode cX12_cell 71 = .ok (.iload_n 1, 1) := by decide +kernel
theorem dX12_cell_72 : decode cX12_cell 72 = .ok (.iaload, 1) := by decide +kernel
theorem dX12_cell_73 : decode cX12_cell 73 = .ok (.iconst 1, 1) := by decide +kernel
theorem dX12_cell_74 : decode cX12_cell 74 = .ok (.if_icmp .ne 8, 3) := by decide +kernel
theorem dX12_cell_77 : decode cX12_cell 77 = .ok (.iload_n 3, 1) := by decide +kernel
theorem dX12_cell_78 : decode cX12_cell 78 = .ok (.i2s, 1) := by decide +kernel
theorem dX12_cell_79 : decode cX12_cell 79 = .ok (.goto 4, 3) := by decide +kernel
theorem dX12_cell_82 : decode cX12_cell 82 = .ok (.iload_n 3, 1) := by decide +kernel
theorem dX12_cell_83 : decode cX12_cell 83 = .ok (.iastore, 1) := by decide +kernel
theorem dX12_cell_84 : decode cX12_cell 84 = .ok (.iconst 1, 1) := by decide +kernel
theorem dX12_cell_85 : decode cX12_cell 85 = .ok (.ireturn, 1) := by decide +kernel
theorem dX12_copy_0 : decode cX12_copy 0 = .ok (.iload_n 1, 1) := by decide +kernel
theorem dX12_copy_1 : decode cX12_copy 1 = .ok (.invokestatic 407, 3) := by decide +kernel
theorem dX12_copy_4 : decode cX12_copy 4 = .ok (.ifCond .eq 10, 3) := by decide +kernel
theorem dX12_copy_7 : decode cX12_copy 7 = .ok (.iload_n 3, 1) := by decide +kernel
theorem dX12_copy_8 : decode cX12_copy 8 = .ok (.invokestatic 407, 3) := by decide +kernel
theorem dX12_copy_11 : decode cX12_copy 11 = .ok (.ifCond .ne 6, 3) := by decide +kernel
theorem dX12_copy_14 : decode cX12_copy 14 = .ok (.bipush (-2), 2) := by decide +kernel
theorem dX12_copy_16 : decode cX12_copy 16 = .ok (.ireturn, 1) := by decide +kernel
theorem dX12_copy_17 : decode cX12_copy 17 = .ok (.aload_n 0, 1) := by decide +kernel
theorem dX12_copy_18 : decode cX12_copy 18 = .ok (.getfield 101, 3) := by decide +kernel
theorem dX12_copy_21 : decode cX12_copy 21 = .ok (.iload_n 1, 1) := by decide +kernel
theorem dX12_copy_22 : decode cX12_copy 22 = .ok (.baload, 1) := by decide +kernel
theorem dX12_copy_23 : decode cX12_copy 23 = .ok (.ifCond .eq 12, 3) := by decide +kernel
theorem dX12_copy_26 : decode cX12_copy 26 = .ok (.aload_n 0, 1) := by decide +kernel
theorem dX12_copy_27 : decode cX12_copy 27 = .ok (.getfield 101, 3) := by decide +kernel
theorem dX12_copy_30 : decode cX12_copy 30 = .ok (.iload_n 3, 1) := by decide +kernel
theorem dX12_copy_31 : decode cX12_copy 31 = .ok (.baload, 1) := by decide +kernel
theorem dX12_copy_32 : decode cX12_copy 32 = .ok (.ifCond .ne 6, 3) := by decide +kernel
theorem dX12_copy_35 : decode cX12_copy 35 = .ok (.bipush (-11), 2) := by decide +kernel
theorem dX12_copy_37 : decode cX12_copy 37 = .ok (.ireturn, 1) := by decide +kernel
theorem dX12_copy_38 : decode cX12_copy 38 = .ok (.aload_n 0, 1) := by decide +kernel
theorem dX12_copy_39 : decode cX12_copy 39 = .ok (.getfield 105, 3) := by decide +kernel
theorem dX12_copy_42 : decode cX12_copy 42 = .ok (.iload_n 1, 1) := by decide +kernel
theorem dX12_copy_43 : decode cX12_copy 43 = .ok (.iaload, 1) := by decide +kernel
theorem dX12_copy_44 : decode cX12_copy 44 = .ok (.aload_n 0, 1) := by decide +kernel
theorem dX12_copy_45 : decode cX12_copy 45 = .ok (.getfield 105, 3) := by decide +kernel
theorem dX12_copy_48 : decode cX12_copy 48 = .ok (.iload_n 3, 1) := by decide +kernel
theorem dX12_copy_49 : decode cX12_copy 49 = .ok (.iaload, 1) := by decide +kernel
theorem dX12_copy_50 : decode cX12_copy 50 = .ok (.if_icmp .eq 6, 3) := by decide +kernel
theorem dX12_copy_53 : decode cX12_copy 53 = .ok (.bipush (-13), 2) := by decide +kernel
theorem dX12_copy_55 : decode cX12_copy 55 = .ok (.ireturn, 1) := by decide +kernel
theorem dX12_copy_56 : decode cX12_copy 56 = .ok (.iload 5, 2) := by decide +kernel
theorem dX12_copy_58 : decode cX12_copy 58 = .ok (.ifCond .lt 39, 3) := by decide +kernel
theorem dX12_copy_61 : decode cX12_copy 61 = .ok (.iload_n 2, 1) := by decide +kernel
theorem dX12_copy_62 : decode cX12_copy 62 = .ok (.ifCond .lt 35, 3) := by decide +kernel
theorem dX12_copy_65 : decode cX12_copy 65 = .ok (.iload 4, 2) := by decide +kernel
theorem dX12_copy_67 : decode cX12_copy 67 = .ok (.ifCond .lt 30, 3) := by decide +kernel
theorem dX12_copy_70 : decode cX12_copy 70 = .ok (.iload_n 2, 1) := by decide +kernel
theorem dX12_copy_71 : decode cX12_copy 71 = .ok (.aload_n 0, 1) := by decide +kernel
theorem dX12_copy_72 : decode cX12_copy 72 = .ok (.getfield 108, 3) := by decide +kernel
theorem dX12_copy_75 : decode cX12_copy 75 = .ok (.iload_n 1, 1) := by decide +kernel
theorem dX12_copy_76 : decode cX12_copy 76 = .ok (.iaload, 1) := by decide +kernel
theorem dX12_copy_77 : decode cX12_copy 77 = .ok (.iload 5, 2) := by decide +kernel
theorem dX12_copy_79 : decode cX12_copy 79 = .ok (.isub, 1) := by decide +kernel
theorem dX12_copy_80 : decode cX12_copy 80 = .ok (.if_icmp .gt 17, 3) := by decide +kernel
theorem dX12_copy_83 : decode cX12_copy 83 = .ok (.iload 4, 2) := by decide +kernel
theorem dX12_copy_85 : decode cX12_copy 85 = .ok (.aload_n 0, 1) := by decide +kernel
theorem dX12_copy_86 : decode cX12_copy 86 = .ok (.getfield 108, 3) := by decide +kernel
theorem dX12_copy_89 : decode cX12_copy 89 = .ok (.iload_n 3, 1) := by decide +kernel
theorem dX12_copy_90 : decode cX12_copy 90 = .ok (.iaload, 1) := by decide +kernel
theorem dX12_copy_91 : decode cX12_copy 91 = .ok (.iload 5, 2) := by decide +kernel
theorem dX12_copy_93 : decode cX12_copy 93 = .ok (.isub, 1) := by decide +kernel
theorem dX12_copy_94 : decode cX12_copy 94 = .ok (.if_icmp .le 6, 3) := by decide +kernel
theorem dX12_copy_97 : decode cX12_copy 97 = .ok (.bipush (-12), 2) := by decide +kernel
theorem dX12_copy_99 : decode cX12_copy 99 = .ok (.ireturn, 1) := by decide +kernel
theorem dX12_copy_100 : decode cX12_copy 100 = .ok (.iload_n 1, 1) := by decide +kernel
theorem dX12_copy_101 : decode cX12_copy 101 = .ok (.iload_n 3, 1) := by decide +kernel
theorem dX12_copy_102 : decode cX12_copy 102 = .ok (.if_icmp .ne 13, 3) := by decide +kernel
theorem dX12_copy_105 : decode cX12_copy 105 = .ok (.iload_n 2, 1) := by decide +kernel
theorem dX12_copy_106 : decode cX12_copy 106 = .ok (.iload 4, 2) := by decide +kernel
theorem dX12_copy_108 : decode cX12_copy 108 = .ok (.if_icmp .ge 7, 3) := by decide +kernel
theorem dX12_copy_111 : decode cX12_copy 111 = .ok (.iconst 1, 1) := by decide +kernel
theorem dX12_copy_112 : decode cX12_copy 112 = .ok (.goto 4, 3) := by decide +kernel
theorem dX12_copy_115 : decode cX12_copy 115 = .ok (.iconst 0, 1) := by decide +kernel
theorem dX12_copy_116 : decode cX12_copy 116 = .ok (.istore 6, 2) := by decide +kernel
theorem dX12_copy_118 : decode cX12_copy 118 = .ok (.iconst 0, 1) := by decide +kernel
theorem dX12_copy_119 : decode cX12_copy 119 = .ok (.istore 7, 2) := by decide +kernel
theorem dX12_copy_121 : decode cX12_copy 121 = .ok (.iload 7, 2) := by decide +kernel
theorem dX12_copy_123 : decode cX12_copy 123 = .ok (.iload 5, 2) := by decide +kernel
theorem dX12_copy_125 : decode cX12_copy 125 = .ok (.if_icmp .ge 57, 3) := by decide +kernel
theorem dX12_copy_128 : decode cX12_copy 128 = .ok (.iload 6, 2) := by decide +kernel
theorem dX12_copy_130 : decode cX12_copy 130 = .ok (.ifCond .eq 13, 3) := by decide +kernel
theorem dX12_copy_133 : decode cX12_copy 133 = .ok (.iload 5, 2) := by decide +kernel
theorem dX12_copy_135 : decode cX12_copy 135 = .ok (.iconst 1, 1) := by decide +kernel
theorem dX12_copy_136 : decode cX12_copy 136 = .ok (.isub, 1) := by decide +kernel
theorem dX12_copy_137 : decode cX12_copy 137 = .ok (.iload 7, 2) := by decide +kernel
theorem dX12_copy_139 : decode cX12_copy 139 = .ok (.isub, 1) := by decide +kernel
theorem dX12_copy_140 : decode cX12_copy 140 = .ok (.goto 5, 3) := by decide +kernel
theorem dX12_copy_143 : decode cX12_copy 143 = .ok (.iload 7, 2) := by decide +kernel
theorem dX12_copy_145 : decode cX12_copy 145 = .ok (.istore 8, 2) := by decide +kernel
theorem dX12_copy_147 : decode cX12_copy 147 = .ok (.aload_n 0, 1) := by decide +kernel
theorem dX12_copy_148 : decode cX12_copy 148 = .ok (.getfield 111, 3) := by decide +kernel
theorem dX12_copy_151 : decode cX12_copy 151 = .ok (.bipush 40, 2) := by decide +kernel
theorem dX12_copy_153 : decode cX12_copy 153 = .ok (.iload_n 3, 1) := by decide +kernel
theorem dX12_copy_154 : decode cX12_copy 154 = .ok (.imul, 1) := by decide +kernel
theorem dX12_copy_155 : decode cX12_copy 155 = .ok (.iload 4, 2) := by decide +kernel
theorem dX12_copy_157 : decode cX12_copy 157 = .ok (.iadd, 1) := by decide +kernel
theorem dX12_copy_158 : decode cX12_copy 158 = .ok (.iload 8, 2) := by decide +kernel
theorem dX12_copy_160 : decode cX12_copy 160 = .ok (.iadd, 1) := by decide +kernel
theorem dX12_copy_161 : decode cX12_copy 161 = .ok (.aload_n 0, 1) := by decide +kernel
theorem dX12_copy_162 : decode cX12_copy 162 = .ok (.getfield 111, 3) := by decide +kernel
theorem dX12_copy_165 : decode cX12_copy 165 = .ok (.bipush 40, 2) := by decide +kernel
theorem dX12_copy_167 : decode cX12_copy 167 = .ok (.iload_n 1, 1) := by decide +kernel
theorem dX12_copy_168 : decode cX12_copy 168 = .ok (.imul, 1) := by decide +kernel
theorem dX12_copy_169 : decode cX12_copy 169 = .ok (.iload_n 2, 1) := by decide +kernel
theorem dX12_copy_170 : decode cX12_copy 170 = .ok (.iadd, 1) := by decide +kernel
theorem dX12_copy_171 : decode cX12_copy 171 = .ok (.iload 8, 2) := by decide +kernel
theorem dX12_copy_173 : decode cX12_copy 173 = .ok (.iadd, 1) := by decide +kernel
theorem dX12_copy_174 : decode cX12_copy 174 = .ok (.iaload, 1) := by decide +kernel
theorem dX12_copy_175 : decode cX12_copy 175 = .ok (.iastore, 1) := by decide +kernel
theorem dX12_copy_176 : decode cX12_copy 176 = .ok (.iinc 7 1, 3) := by decide +kernel
theorem dX12_copy_179 : decode cX12_copy 179 = .ok (.goto (-58), 3) := by decide +kernel
theorem dX12_copy_182 : decode cX12_copy 182 = .ok (.iload 5, 2) := by decide +kernel
theorem dX12_copy_184 : decode cX12_copy 184 = .ok (.ireturn, 1) := by decide +kernel
theorem dX12_men_0 : decode cX12_men 0 = .ok (.iload_n 1, 1) := by decide +kernel
theorem dX12_men_1 : decode cX12_men 1 = .ok (.invokestatic 407, 3) := by decide +kernel
theorem dX12_men_4 : decode cX12_men 4 = .ok (.ifCond .eq 28, 3) := by decide +kernel
theorem dX12_men_7 : decode cX12_men 7 = .ok (.iload_n 2, 1) := by decide +kernel
theorem dX12_men_8 : decode cX12_men 8 = .ok (.i2l, 1) := by decide +kernel
theorem dX12_men_9 : decode cX12_men 9 = .ok (.lconst 0, 1) := by decide +kernel
theorem dX12_men_10 : decode cX12_men 10 = .ok (.ldc2_w 309, 3) := by decide +kernel
theorem dX12_men_13 : decode cX12_men 13 = .ok (.invokestatic 138, 3) := by decide +kernel
theorem dX12_men_16 : decode cX12_men 16 = .ok (.ifCond .eq 16, 3) := by decide +kernel
theorem dX12_men_19 : decode cX12_men 19 = .ok (.iload 4, 2) := by decide +kernel
theorem dX12_men_21 : decode cX12_men 21 = .ok (.i2l, 1) := by decide +kernel
theorem dX12_men_22 : decode cX12_men 22 = .ok (.lconst 0, 1) := by decide +kernel
theorem dX12_men_23 : decode cX12_men 23 = .ok (.ldc2_w 204, 3) := by decide +kernel
theorem dX12_men_26 : decode cX12_men 26 = .ok (.invokestatic 138, 3) := by decide +kernel
theorem dX12_men_29 : decode cX12_men 29 = .ok (.ifCond .ne 6, 3) := by decide +kernel
theorem dX12_men_32 : decode cX12_men 32 = .ok (.bipush (-2), 2) := by decide +kernel
theorem dX12_men_34 : decode cX12_men 34 = .ok (.ireturn, 1) := by decide +kernel
theorem dX12_men_35 : decode cX12_men 35 = .ok (.aload_n 0, 1) := by decide +kernel
theorem dX12_men_36 : decode cX12_men 36 = .ok (.getfield 101, 3) := by decide +kernel
theorem dX12_men_39 : decode cX12_men 39 = .ok (.iload_n 1, 1) := by decide +kernel
theorem dX12_men_40 : decode cX12_men 40 = .ok (.baload, 1) := by decide +kernel
theorem dX12_men_41 : decode cX12_men 41 = .ok (.ifCond .eq 16, 3) := by decide +kernel
theorem dX12_men_44 : decode cX12_men 44 = .ok (.aload_n 0, 1) := by decide +kernel
theorem dX12_men_45 : decode cX12_men 45 = .ok (.getfield 105, 3) := by decide +kernel
theorem dX12_men_48 : decode cX12_men 48 = .ok (.iload_n 1, 1) := by decide +kernel
theorem dX12_men_49 : decode cX12_men 49 = .ok (.iaload, 1) := by decide +kernel
theorem dX12_men_50 : decode cX12_men 50 = .ok (.iload_n 2, 1) := by decide +kernel
theorem dX12_men_51 : decode cX12_men 51 = .ok (.if_icmp .eq 6, 3) := by decide +kernel
theorem dX12_men_54 : decode cX12_men 54 = .ok (.bipush (-13), 2) := by decide +kernel
theorem dX12_men_56 : decode cX12_men 56 = .ok (.ireturn, 1) := by decide +kernel
theorem dX12_men_57 : decode cX12_men 57 = .ok (.aload_n 0, 1) := by decide +kernel
theorem dX12_men_58 : decode cX12_men 58 = .ok (.getfield 101, 3) := by decide +kernel
theorem dX12_men_61 : decode cX12_men 61 = .ok (.iload_n 1, 1) := by decide +kernel
theorem dX12_men_62 : decode cX12_men 62 = .ok (.baload, 1) := by decide +kernel
theorem dX12_men_63 : decode cX12_men 63 = .ok (.ifCond .ne 6, 3) := by decide +kernel
theorem dX12_men_66 : decode cX12_men 66 = .ok (.bipush (-11), 2) := by decide +kernel
theorem dX12_men_68 : decode cX12_men 68 = .ok (.ireturn, 1) := by decide +kernel
theorem dX12_men_69 : decode cX12_men 69 = .ok (.iconst 0, 1) := by decide +kernel
theorem dX12_men_70 : decode cX12_men 70 = .ok (.istore 5, 2) := by decide +kernel
theorem dX12_men_72 : decode cX12_men 72 = .ok (.iconst 0, 1) := by decide +kernel
theorem dX12_men_73 : decode cX12_men 73 = .ok (.istore 6, 2) := by decide +kernel
theorem dX12_men_75 : decode cX12_men 75 = .ok (.iload 6, 2) := by decide +kernel
theorem dX12_men_77 : decode cX12_men 77 = .ok (.iload 4, 2) := by decide +kernel
theorem dX12_men_79 : decode cX12_men 79 = .ok (.if_icmp .ge 88, 3) := by decide +kernel
theorem dX12_men_82 : decode cX12_men 82 = .ok (.iload_n 3, 1) := by decide +kernel
theorem dX12_men_83 : decode cX12_men 83 = .ok (.ifCond .lt 20, 3) := by decide +kernel
theorem dX12_men_86 : decode cX12_men 86 = .ok (.iload_n 3, 1) := by decide +kernel
theorem dX12_men_87 : decode cX12_men 87 = .ok (.aload_n 0, 1) := by decide +kernel
theorem dX12_men_88 : decode cX12_men 88 = .ok (.getfield 108, 3) := by decide +kernel
theorem dX12_men_91 : decode cX12_men 91 = .ok (.iload_n 1, 1) := by decide +kernel
theorem dX12_men_92 : decode cX12_men 92 = .ok (.iaload, 1) := by decide +kernel
theorem dX12_men_93 : decode cX12_men 93 = .ok (.iconst 3, 1) := by decide +kernel
theorem dX12_men_94 : decode cX12_men 94 = .ok (.iload 6, 2) := by decide +kernel
theorem dX12_men_96 : decode cX12_men 96 = .ok (.imul, 1) := by decide +kernel
theorem dX12_men_97 : decode cX12_men 97 = .ok (.isub, 1) := by decide +kernel
theorem dX12_men_98 : decode cX12_men 98 = .ok (.iconst 3, 1) := by decide +kernel
theorem dX12_men_99 : decode cX12_men 99 = .ok (.isub, 1) := by decide +kernel
theorem dX12_men_100 : decode cX12_men 100 = .ok (.if_icmp .le 6, 3) := by decide +kernel
theorem dX12_men_103 : decode cX12_men 103 = .ok (.bipush (-12), 2) := by decide +kernel
theorem dX12_men_105 : decode cX12_men 105 = .ok (.ireturn, 1) := by decide +kernel
theorem dX12_men_106 : decode cX12_men 106 = .ok (.bipush 40, 2) := by decide +kernel
theorem dX12_men_108 : decode cX12_men 108 = .ok (.iload_n 1, 1) := by decide +kernel
theorem dX12_men_109 : decode cX12_men 109 = .ok (.imul, 1) := by decide +kernel
theorem dX12_men_110 : decode cX12_men 110 = .ok (.iload_n 3, 1) := by decide +kernel
theorem dX12_men_111 : decode cX12_men 111 = .ok (.iadd, 1) := by decide +kernel
theorem dX12_men_112 : decode cX12_men 112 = .ok (.iconst 3, 1) := by decide +kernel
theorem dX12_men_113 : decode cX12_men 113 = .ok (.iload 6, 2) := by decide +kernel
theorem dX12_men_115 : decode cX12_men 115 = .ok (.imul, 1) := by decide +kernel
theorem dX12_men_116 : decode cX12_men 116 = .ok (.iadd, 1) := by decide +kernel
theorem dX12_men_117 : decode cX12_men 117 = .ok (.istore 7, 2) := by decide +kernel
theorem dX12_men_119 : decode cX12_men 119 = .ok (.iload 5, 2) := by decide +kernel
theorem dX12_men_121 : decode cX12_men 121 = .ok (.aload_n 0, 1) := by decide +kernel
theorem dX12_men_122 : decode cX12_men 122 = .ok (.aload_n 0, 1) := by decide +kernel
theorem dX12_men_123 : decode cX12_men 123 = .ok (.getfield 111, 3) := by decide +kernel
theorem dX12_men_126 : decode cX12_men 126 = .ok (.iload 7, 2) := by decide +kernel
theorem dX12_men_128 : decode cX12_men 128 = .ok (.iaload, 1) := by decide +kernel
theorem dX12_men_129 : decode cX12_men 129 = .ok (.aload_n 0, 1) := by decide +kernel
theorem dX12_men_130 : decode cX12_men 130 = .ok (.getfield 111, 3) := by decide +kernel
theorem dX12_men_133 : decode cX12_men 133 = .ok (.iload 7, 2) := by decide +kernel
theorem dX12_men_135 : decode cX12_men 135 = .ok (.iconst 1, 1) := by decide +kernel
theorem dX12_men_136 : decode cX12_men 136 = .ok (.iadd, 1) := by decide +kernel
theorem dX12_men_137 : decode cX12_men 137 = .ok (.iaload, 1) := by decide +kernel
theorem dX12_men_138 : decode cX12_men 138 = .ok (.aload_n 0, 1) := by decide +kernel
theorem dX12_men_139 : decode cX12_men 139 = .ok (.getfield 111, 3) := by decide +kernel
theorem dX12_men_142 : decode cX12_men 142 = .ok (.iload 7, 2) := by decide +kernel
theorem dX12_men_144 : decode cX12_men 144 = .ok (.iconst 2, 1) := by decide +kernel
theorem dX12_men_145 : decode cX12_men 145 = .ok (.iadd, 1) := by decide +kernel
theorem dX12_men_146 : decode cX12_men 146 = .ok (.iaload, 1) := by decide +kernel
theorem dX12_men_147 : decode cX12_men 147 = .ok (.invokevirtual 457, 3) := by decide +kernel
theorem dX12_men_150 : decode cX12_men 150 = .ok (.ifCond .lt 7, 3) := by decide +kernel
theorem dX12_men_153 : decode cX12_men 153 = .ok (.iconst 1, 1) := by decide +kernel
theorem dX12_men_154 : decode cX12_men 154 = .ok (.goto 4, 3) := by decide +kernel
theorem dX12_men_157 : decode cX12_men 157 = .ok (.iconst 0, 1) := by decide +kernel
theorem dX12_men_158 : decode cX12_men 158 = .ok (.iadd, 1) := by decide +kernel
theorem dX12_men_159 : decode cX12_men 159 = .ok (.istore 5, 2) := by decide +kernel
theorem dX12_men_161 : decode cX12_men 161 = .ok (.iinc 6 1, 3) := by decide +kernel
theorem dX12_men_164 : decode cX12_men 164 = .ok (.goto (-89), 3) := by decide +kernel
theorem dX12_men_167 : decode cX12_men 167 = .ok (.iload 5, 2) := by decide +kernel
theorem dX12_men_169 : decode cX12_men 169 = .ok (.ireturn, 1) := by decide +kernel
theorem dX12_over_0 : decode cX12_over 0 = .ok (.iload_n 0, 1) := by decide +kernel
theorem dX12_over_1 : decode cX12_over 1 = .ok (.ifCond .ne 7, 3) := by decide +kernel
theorem dX12_over_4 : decode cX12_over 4 = .ok (.iconst (-1), 1) := by decide +kernel
theorem dX12_over_5 : decode cX12_over 5 = .ok (.goto 27, 3) := by decide +kernel
theorem dX12_over_8 : decode cX12_over 8 = .ok (.iload_n 0, 1) := by decide +kernel
theorem dX12_over_9 : decode cX12_over 9 = .ok (.iconst 3, 1) := by decide +kernel
theorem dX12_over_10 : decode cX12_over 10 = .ok (.if_icmp .eq 8, 3) := by decide +kernel
theorem dX12_over_13 : decode cX12_over 13 = .ok (.iload_n 0, 1) := by decide +kernel
theorem dX12_over_14 : decode cX12_over 14 = .ok (.iconst 5, 1) := by decide +kernel
theorem dX12_over_15 : decode cX12_over 15 = .ok (.if_icmp .ne 7, 3) := by decide +kernel
theorem dX12_over_18 : decode cX12_over 18 = .ok (.iconst 2, 1) := by decide +kernel
theorem dX12_over_19 : decode cX12_over 19 = .ok (.goto 13, 3) := by decide +kernel
theorem dX12_over_22 : decode cX12_over 22 = .ok (.iload_n 0, 1) := by decide +kernel
theorem dX12_over_23 : decode cX12_over 23 = .ok (.iconst 4, 1) := by decide +kernel
theorem dX12_over_24 : decode cX12_over 24 = .ok (.if_icmp .ne 7, 3) := by decide +kernel
theorem dX12_over_27 : decode cX12_over 27 = .ok (.iconst 1, 1) := by decide +kernel
theorem dX12_over_28 : decode cX12_over 28 = .ok (.goto 4, 3) := by decide +kernel
theorem dX12_over_31 : decode cX12_over 31 = .ok (.iconst 0, 1) := by decide +kernel
theorem dX12_over_32 : decode cX12_over 32 = .ok (.ireturn, 1) := by decide +kernel
theorem dX12_taken_0 : decode cX12_taken 0 = .ok (.iload_n 2, 1) := by decide +kernel
theorem dX12_taken_1 : decode cX12_taken 1 = .ok (.i2l, 1) := by decide +kernel
theorem dX12_taken_2 : decode cX12_taken 2 = .ok (.lconst 0, 1) := by decide +kernel
theorem dX12_taken_3 : decode cX12_taken 3 = .ok (.ldc2_w 361, 3) := by decide +kernel
theorem dX12_taken_6 : decode cX12_taken 6 = .ok (.invokestatic 138, 3) := by decide +kernel
theorem dX12_taken_9 : decode cX12_taken 9 = .ok (.ifCond .ne 6, 3) := by decide +kernel
theorem dX12_taken_12 : decode cX12_taken 12 = .ok (.bipush (-2), 2) := by decide +kernel
theorem dX12_taken_14 : decode cX12_taken 14 = .ok (.ireturn, 1) := by decide +kernel
theorem dX12_taken_15 : decode cX12_taken 15 = .ok (.aload_n 0, 1) := by decide +kernel
theorem dX12_taken_16 : decode cX12_taken 16 = .ok (.iload_n 1, 1) := by decide +kernel
theorem dX12_taken_17 : decode cX12_taken 17 = .ok (.invokevirtual 389, 3) := by decide +kernel
theorem dX12_taken_20 : decode cX12_taken 20 = .ok (.ifCond .ne 6, 3) := by decide +kernel
theorem dX12_taken_23 : decode cX12_taken 23 = .ok (.bipush (-11), 2) := by decide +kernel
theorem dX12_taken_25 : decode cX12_taken 25 = .ok (.ireturn, 1) := by decide +kernel
theorem dX12_taken_26 : decode cX12_taken 26 = .ok (.aload_n 0, 1) := by decide +kernel
theorem dX12_taken_27 : decode cX12_taken 27 = .ok (.getfield 50, 3) := by decide +kernel
theorem dX12_taken_30 : decode cX12_taken 30 = .ok (.iload_n 1, 1) := by decide +kernel
theorem dX12_taken_31 : decode cX12_taken 31 = .ok (.iaload, 1) := by decide +kernel
theorem dX12_taken_32 : decode cX12_taken 32 = .ok (.istore_n 3, 1) := by decide +kernel
theorem dX12_taken_33 : decode cX12_taken 33 = .ok (.iload_n 3, 1) := by decide +kernel
theorem dX12_taken_34 : decode cX12_taken 34 = .ok (.iconst (-1), 1) := by decide +kernel
theorem dX12_taken_35 : decode cX12_taken 35 = .ok (.if_icmp .eq 16, 3) := by decide +kernel
theorem dX12_taken_38 : decode cX12_taken 38 = .ok (.iload_n 3, 1) := by decide +kernel
theorem dX12_taken_39 : decode cX12_taken 39 = .ok (.iload_n 2, 1) := by decide +kernel
theorem dX12_taken_40 : decode cX12_taken 40 = .ok (.if_icmp .eq 11, 3) := by decide +kernel
theorem dX12_taken_43 : decode cX12_taken 43 = .ok (.iload_n 3, 1) := by decide +kernel
theorem dX12_taken_44 : decode cX12_taken 44 = .ok (.invokestatic 460, 3) := by decide +kernel
theorem dX12_taken_47 : decode cX12_taken 47 = .ok (.istore_n 3, 1) := by decide +kernel
theorem dX12_taken_48 : decode cX12_taken 48 = .ok (.goto (-15), 3) := by decide +kernel
theorem dX12_taken_51 : decode cX12_taken 51 = .ok (.iload_n 3, 1) := by decide +kernel
theorem dX12_taken_52 : decode cX12_taken 52 = .ok (.iload_n 2, 1) := by decide +kernel
theorem dX12_taken_53 : decode cX12_taken 53 = .ok (.if_icmp .ne 12, 3) := by decide +kernel
theorem dX12_taken_56 : decode cX12_taken 56 = .ok (.aload_n 0, 1) := by decide +kernel
theorem dX12_taken_57 : decode cX12_taken 57 = .ok (.getfield 59, 3) := by decide +kernel
theorem dX12_taken_60 : decode cX12_taken 60 = .ok (.iload_n 1, 1) := by decide +kernel
theorem dX12_taken_61 : decode cX12_taken 61 = .ok (.iaload, 1) := by decide +kernel
theorem dX12_taken_62 : decode cX12_taken 62 = .ok (.goto 5, 3) := by decide +kernel
theorem dX12_taken_65 : decode cX12_taken 65 = .ok (.bipush (-13), 2) := by decide +kernel
theorem dX12_taken_67 : decode cX12_taken 67 = .ok (.ireturn, 1) := by decide +kernel
end
section
theorem dL_law_0 : decode cL_law 0 = .ok (.new 7, 3) := by decide +kernel
theorem dL_law_3 : decode cL_law 3 = .ok (.dup, 1) := by decide +kernel
theorem dL_law_4 : decode cL_law 4 = .ok (.invokespecial 9, 3) := by decide +kernel
theorem dL_law_7 : decode cL_law 7 = .ok (.astore_n 1, 1) := by decide +kernel
theorem dL_law_8 : decode cL_law 8 = .ok (.new 10, 3) := by decide +kernel
theorem dL_law_11 : decode cL_law 11 = .ok (.dup, 1) := by decide +kernel
theorem dL_law_12 : decode cL_law 12 = .ok (.invokespecial 12, 3) := by decide +kernel
theorem dL_law_15 : decode cL_law 15 = .ok (.astore_n 2, 1) := by decide +kernel
theorem dL_law_16 : decode cL_law 16 = .ok (.iconst 0, 1) := by decide +kernel
theorem dL_law_17 : decode cL_law 17 = .ok (.istore_n 3, 1) := by decide +kernel
theorem dL_law_18 : decode cL_law 18 = .ok (.iload_n 3, 1) := by decide +kernel
theorem dL_law_19 : decode cL_law 19 = .ok (.aload_n 0, 1) := by decide +kernel
theorem dL_law_20 : decode cL_law 20 = .ok (.arraylength, 1) := by decide +kernel
theorem dL_law_21 : decode cL_law 21 = .ok (.bipush 6, 2) := by decide +kernel
theorem dL_law_23 : decode cL_law 23 = .ok (.isub, 1) := by decide +kernel
theorem dL_law_24 : decode cL_law 24 = .ok (.if_icmp .gt 1338, 3) := by decide +kernel
theorem dL_law_27 : decode cL_law 27 = .ok (.aload_n 0, 1) := by decide +kernel
theorem dL_law_28 : decode cL_law 28 = .ok (.iload_n 3, 1) := by decide +kernel
theorem dL_law_29 : decode cL_law 29 = .ok (.iaload, 1) := by decide +kernel
theorem dL_law_30 : decode cL_law 30 = .ok (.bipush 31, 2) := by decide +kernel
theorem dL_law_32 : decode cL_law 32 = .ok (.iand, 1) := by decide +kernel
theorem dL_law_33 : decode cL_law 33 = .ok (.tableswitch 1323 0 31 #[143, 186, 229, 272, 316, 359, 392, 426, 459, 522, 535, 558, 612, 635, 698, 732, 745, 798, 841, 884, 927, 950, 993, 1026, 1039, 1052, 1065, 1088, 1131, 1174, 1237, 1290], 143) := by decide +kernel
theorem dL_law_176 : decode cL_law 176 = .ok (.aload_n 1, 1) := by decide +kernel
theorem dL_law_177 : decode cL_law 177 = .ok (.aload_n 0, 1) := by decide +kernel
theorem dL_law_178 : decode cL_law 178 = .ok (.iload_n 3, 1) := by decide +kernel
theorem dL_law_179 : decode cL_law 179 = .ok (.iconst 1, 1) := by decide +kernel
theorem dL_law_180 : decode cL_law 180 = .ok (.iadd, 1) := by decide +kernel
theorem dL_law_181 : decode cL_law 181 = .ok (.iaload, 1) := by decide +kernel
theorem dL_law_182 : decode cL_law 182 = .ok (.aload_n 0, 1) := by decide +kernel
theorem dL_law_183 : decode cL_law 183 = .ok (.iload_n 3, 1) := by decide +kernel
theorem dL_law_184 : decode cL_law 184 = .ok (.iconst 2, 1) := by decide +kernel
theorem dL_law_185 : decode cL_law 185 = .ok (.iadd, 1) := by decide +kernel
theorem dL_law_186 : decode cL_law 186 = .ok (.iaload, 1) := by decide +kernel
theorem dL_law_187 : decode cL_law 187 = .ok (.aload_n 0, 1) := by decide +kernel
theorem dL_law_188 : decode cL_law 188 = .ok (.iload_n 3, 1) := by decide +kernel
theorem dL_law_189 : decode cL_law 189 = .ok (.iconst 3, 1) := by decide +kernel
theorem dL_law_190 : decode cL_law 190 = .ok (.iadd, 1) := by decide +kernel
theorem dL_law_191 : decode cL_law 191 = .ok (.iaload, 1) := by decide +kernel
theorem dL_law_192 : decode cL_law 192 = .ok (.invokevirtual 13, 3) := by decide +kernel
theorem dL_law_195 : decode cL_law 195 = .ok (.aload_n 2, 1) := by decide +kernel
theorem dL_law_196 : decode cL_law 196 = .ok (.aload_n 0, 1) := by decide +kernel
theorem dL_law_197 : decode cL_law 197 = .ok (.iload_n 3, 1) := by decide +kernel
theorem dL_law_198 : decode cL_law 198 = .ok (.iconst 1, 1) := by decide +kernel
theorem dL_law_199 : decode cL_law 199 = .ok (.iadd, 1) := by decide +kernel
theorem dL_law_200 : decode cL_law 200 = .ok (.iaload, 1) := by decide +kernel
theorem dL_law_201 : decode cL_law 201 = .ok (.aload_n 0, 1) := by decide +kernel
theorem dL_law_202 : decode cL_law 202 = .ok (.iload_n 3, 1) := by decide +kernel
theorem dL_law_203 : decode cL_law 203 = .ok (.iconst 2, 1) := by decide +kernel
theorem dL_law_204 : decode cL_law 204 = .ok (.iadd, 1) := by decide +kernel
theorem dL_law_205 : decode cL_law 205 = .ok (.iaload, 1) := by decide +kernel
theorem dL_law_206 : decode cL_law 206 = .ok (.aload_n 0, 1) := by decide +kernel
theorem dL_law_207 : decode cL_law 207 = .ok (.iload_n 3, 1) := by decide +kernel
theorem dL_law_208 : decode cL_law 208 = .ok (.iconst 3, 1) := by decide +kernel
theorem dL_law_209 : decode cL_law 209 = .ok (.iadd, 1) := by decide +kernel
theorem dL_law_210 : decode cL_law 210 = .ok (.iaload, 1) := by decide +kernel
theorem dL_law_211 : decode cL_law 211 = .ok (.invokevirtual 17, 3) := by decide +kernel
theorem dL_law_214 : decode cL_law 214 = .ok (.if_icmp .eq 1142, 3) := by decide +kernel
theorem dL_law_217 : decode cL_law 217 = .ok (.iconst 0, 1) := by decide +kernel
theorem dL_law_218 : decode cL_law 218 = .ok (.ireturn, 1) := by decide +kernel
theorem dL_law_219 : decode cL_law 219 = .ok (.aload_n 1, 1) := by decide +kernel
theorem dL_law_220 : decode cL_law 220 = .ok (.aload_n 0, 1) := by decide +kernel
theorem dL_law_221 : decode cL_law 221 = .ok (.iload_n 3, 1) := by decide +kernel
theorem dL_law_222 : decode cL_law 222 = .ok (.iconst 1, 1) := by decide +kernel
theorem dL_law_223 : decode cL_law 223 = .ok (.iadd, 1) := by decide +kernel
theorem dL_law_224 : decode cL_law 224 = .ok (.iaload, 1) := by decide +kernel
theorem dL_law_225 : decode cL_law 225 = .ok (.aload_n 0, 1) := by decide +kernel
theorem dL_law_226 : decode cL_law 226 = .ok (.iload_n 3, 1) := by decide +kernel
theorem dL_law_227 : decode cL_law 227 = .ok (.iconst 2, 1) := by decide +kernel
theorem dL_law_228 : decode cL_law 228 = .ok (.iadd, 1) := by decide +kernel
theorem dL_law_229 : decode cL_law 229 = .ok (.iaload, 1) := by decide +kernel
theorem dL_law_230 : decode cL_law 230 = .ok (.aload_n 0, 1) := by decide +kernel
theorem dL_law_231 : decode cL_law 231 = .ok (.iload_n 3, 1) := by decide +kernel
theorem dL_law_232 : decode cL_law 232 = .ok (.iconst 3, 1) := by decide +kernel
theorem dL_law_233 : decode cL_law 233 = .ok (.iadd, 1) := by decide +kernel
theorem dL_law_234 : decode cL_law 234 = .ok (.iaload, 1) := by decide +kernel
theorem dL_law_235 : decode cL_law 235 = .ok (.invokevirtual 18, 3) := by decide +kernel
theorem dL_law_238 : decode cL_law 238 = .ok (.aload_n 2, 1) := by decide +kernel
theorem dL_law_239 : decode cL_law 239 = .ok (.aload_n 0, 1) := by decide +kernel
theorem dL_law_240 : decode cL_law 240 = .ok (.iload_n 3, 1) := by decide +kernel
theorem dL_law_241 : decode cL_law 241 = .ok (.iconst 1, 1) := by decide +kernel
theorem dL_law_242 : decode cL_law 242 = .ok (.iadd, 1) := by decide +kernel
theorem dL_law_243 : decode cL_law 243 = .ok (.iaload, 1) := by decide +kernel
theorem dL_law_244 : decode cL_law 244 = .ok (.aload_n 0, 1) := by decide +kernel
theorem dL_law_245 : decode cL_law 245 = .ok (.iload_n 3, 1) := by decide +kernel
theorem dL_law_246 : decode cL_law 246 = .ok (.iconst 2, 1) := by decide +kernel
theorem dL_law_247 : decode cL_law 247 = .ok (.iadd, 1) := by decide +kernel
theorem dL_law_248 : decode cL_law 248 = .ok (.iaload, 1) := by decide +kernel
theorem dL_law_249 : decode cL_law 249 = .ok (.aload_n 0, 1) := by decide +kernel
theorem dL_law_250 : decode cL_law 250 = .ok (.iload_n 3, 1) := by decide +kernel
theorem dL_law_251 : decode cL_law 251 = .ok (.iconst 3, 1) := by decide +kernel
theorem dL_law_252 : decode cL_law 252 = .ok (.iadd, 1) := by decide +kernel
theorem dL_law_253 : decode cL_law 253 = .ok (.iaload, 1) := by decide +kernel
theorem dL_law_254 : decode cL_law 254 = .ok (.invokevirtual 21, 3) := by decide +kernel
theorem dL_law_257 : decode cL_law 257 = .ok (.if_icmp .eq 1099, 3) := by decide +kernel
theorem dL_law_260 : decode cL_law 260 = .ok (.iconst 0, 1) := by decide +kernel
theorem dL_law_261 : decode cL_law 261 = .ok (.ireturn, 1) := by decide +kernel
theorem dL_law_262 : decode cL_law 262 = .ok (.aload_n 1, 1) := by decide +kernel
theorem dL_law_263 : decode cL_law 263 = .ok (.aload_n 0, 1) := by decide +kernel
theorem dL_law_264 : decode cL_law 264 = .ok (.iload_n 3, 1) := by decide +kernel
theorem dL_law_265 : decode cL_law 265 = .ok (.iconst 1, 1) := by decide +kernel
theorem dL_law_266 : decode cL_law 266 = .ok (.iadd, 1) := by decide +kernel
theorem dL_law_267 : decode cL_law 267 = .ok (.iaload, 1) := by decide +kernel
theorem dL_law_268 : decode cL_law 268 = .ok (.aload_n 0, 1) := by decide +kernel
theorem dL_law_269 : decode cL_law 269 = .ok (.iload_n 3, 1) := by decide +kernel
theorem dL_law_270 : decode cL_law 270 = .ok (.iconst 2, 1) := by decide +kernel
theorem dL_law_271 : decode cL_law 271 = .ok (.iadd, 1) := by decide +kernel
theorem dL_law_272 : decode cL_law 272 = .ok (.iaload, 1) := by decide +kernel
theorem dL_law_273 : decode cL_law 273 = .ok (.aload_n 0, 1) := by decide +kernel
theorem dL_law_274 : decode cL_law 274 = .ok (.iload_n 3, 1) := by decide +kernel
theorem dL_law_275 : decode cL_law 275 = .ok (.iconst 3, 1) := by decide +kernel
theorem dL_law_276 : decode cL_law 276 = .ok (.iadd, 1) := by decide +kernel
theorem dL_law_277 : decode cL_law 277 = .ok (.iaload, 1) := by decide +kernel
theorem dL_law_278 : decode cL_law 278 = .ok (.invokevirtual 22, 3) := by decide +kernel
theorem dL_law_281 : decode cL_law 281 = .ok (.aload_n 2, 1) := by decide +kernel
theorem dL_law_282 : decode cL_law 282 = .ok (.aload_n 0, 1) := by decide +kernel
theorem dL_law_283 : decode cL_law 283 = .ok (.iload_n 3, 1) := by decide +kernel
theorem dL_law_284 : decode cL_law 284 = .ok (.iconst 1, 1) := by decide +kernel
theorem dL_law_285 : decode cL_law 285 = .ok (.iadd, 1) := by decide +kernel
theorem dL_law_286 : decode cL_law 286 = .ok (.iaload, 1) := by decide +kernel
theorem dL_law_287 : decode cL_law 287 = .ok (.aload_n 0, 1) := by decide +kernel
theorem dL_law_288 : decode cL_law 288 = .ok (.iload_n 3, 1) := by decide +kernel
theorem dL_law_289 : decode cL_law 289 = .ok (.iconst 2, 1) := by decide +kernel
theorem dL_law_290 : decode cL_law 290 = .ok (.iadd, 1) := by decide +kernel
theorem dL_law_291 : decode cL_law 291 = .ok (.iaload, 1) := by decide +kernel
theorem dL_law_292 : decode cL_law 292 = .ok (.aload_n 0, 1) := by decide +kernel
theorem dL_law_293 : decode cL_law 293 = .ok (.iload_n 3, 1) := by decide +kernel
theorem dL_law_294 : decode cL_law 294 = .ok (.iconst 3, 1) := by decide +kernel
theorem dL_law_295 : decode cL_law 295 = .ok (.iadd, 1) := by decide +kernel
theorem dL_law_296 : decode cL_law 296 = .ok (.iaload, 1) := by decide +kernel
theorem dL_law_297 : decode cL_law 297 = .ok (.invokevirtual 25, 3) := by decide +kernel
theorem dL_law_300 : decode cL_law 300 = .ok (.if_icmp .eq 1056, 3) := by decide +kernel
theorem dL_law_303 : decode cL_law 303 = .ok (.iconst 0, 1) := by decide +kernel
theorem dL_law_304 : decode cL_law 304 = .ok (.ireturn, 1) := by decide +kernel
theorem dL_law_305 : decode cL_law 305 = .ok (.aload_n 1, 1) := by decide +kernel
theorem dL_law_306 : decode cL_law 306 = .ok (.aload_n 0, 1) := by decide +kernel
theorem dL_law_307 : decode cL_law 307 = .ok (.iload_n 3, 1) := by decide +kernel
theorem dL_law_308 : decode cL_law 308 = .ok (.iconst 1, 1) := by decide +kernel
theorem dL_law_309 : decode cL_law 309 = .ok (.iadd, 1) := by decide +kernel
theorem dL_law_310 : decode cL_law 310 = .ok (.iaload, 1) := by decide +kernel
theorem dL_law_311 : decode cL_law 311 = .ok (.aload_n 0, 1) := by decide +kernel
theorem dL_law_312 : decode cL_law 312 = .ok (.iload_n 3, 1) := by decide +kernel
theorem dL_law_313 : decode cL_law 313 = .ok (.iconst 2, 1) := by decide +kernel
theorem dL_law_314 : decode cL_law 314 = .ok (.iadd, 1) := by decide +kernel
theorem dL_law_315 : decode cL_law 315 = .ok (.iaload, 1) := by decide +kernel
theorem dL_law_316 : decode cL_law 316 = .ok (.aload_n 0, 1) := by decide +kernel
theorem dL_law_317 : decode cL_law 317 = .ok (.iload_n 3, 1) := by decide +kernel
theorem dL_law_318 : decode cL_law 318 = .ok (.iconst 3, 1) := by decide +kernel
theorem dL_law_319 : decode cL_law 319 = .ok (.iadd, 1) := by decide +kernel
theorem dL_law_320 : decode cL_law 320 = .ok (.iaload, 1) := by decide +kernel
theorem dL_law_321 : decode cL_law 321 = .ok (.invokevirtual 26, 3) := by decide +kernel
theorem dL_law_324 : decode cL_law 324 = .ok (.aload_n 2, 1) := by decide +kernel
theorem dL_law_325 : decode cL_law 325 = .ok (.aload_n 0, 1) := by decide +kernel
theorem dL_law_326 : decode cL_law 326 = .ok (.iload_n 3, 1) := by decide +kernel
theorem dL_law_327 : decode cL_law 327 = .ok (.iconst 1, 1) := by decide +kernel
theorem dL_law_328 : decode cL_law 328 = .ok (.iadd, 1) := by decide +kernel
theorem dL_law_329 : decode cL_law 329 = .ok (.iaload, 1) := by decide +kernel
theorem dL_law_330 : decode cL_law 330 = .ok (.aload_n 0, 1) := by decide +kernel
theorem dL_law_331 : decode cL_law 331 = .ok (.iload_n 3, 1) := by decide +kernel
theorem dL_law_332 : decode cL_law 332 = .ok (.iconst 2, 1) := by decide +kernel
theorem dL_law_333 : decode cL_law 333 = .ok (.iadd, 1) := by decide +kernel
theorem dL_law_334 : decode cL_law 334 = .ok (.iaload, 1) := by decide +kernel
theorem dL_law_335 : decode cL_law 335 = .ok (.aload_n 0, 1) := by decide +kernel
theorem dL_law_336 : decode cL_law 336 = .ok (.iload_n 3, 1) := by decide +kernel
theorem dL_law_337 : decode cL_law 337 = .ok (.iconst 3, 1) := by decide +kernel
theorem dL_law_338 : decode cL_law 338 = .ok (.iadd, 1) := by decide +kernel
theorem dL_law_339 : decode cL_law 339 = .ok (.iaload, 1) := by decide +kernel
theorem dL_law_340 : decode cL_law 340 = .ok (.invokevirtual 30, 3) := by decide +kernel
theorem dL_law_343 : decode cL_law 343 = .ok (.lcmp, 1) := by decide +kernel
theorem dL_law_344 : decode cL_law 344 = .ok (.ifCond .eq 1012, 3) := by decide +kernel
theorem dL_law_347 : decode cL_law 347 = .ok (.iconst 0, 1) := by decide +kernel
theorem dL_law_348 : decode cL_law 348 = .ok (.ireturn, 1) := by decide +kernel
theorem dL_law_349 : decode cL_law 349 = .ok (.aload_n 1, 1) := by decide +kernel
theorem dL_law_350 : decode cL_law 350 = .ok (.aload_n 0, 1) := by decide +kernel
theorem dL_law_351 : decode cL_law 351 = .ok (.iload_n 3, 1) := by decide +kernel
theorem dL_law_352 : decode cL_law 352 = .ok (.iconst 1, 1) := by decide +kernel
theorem dL_law_353 : decode cL_law 353 = .ok (.iadd, 1) := by decide +kernel
theorem dL_law_354 : decode cL_law 354 = .ok (.iaload, 1) := by decide +kernel
theorem dL_law_355 : decode cL_law 355 = .ok (.aload_n 0, 1) := by decide +kernel
theorem dL_law_356 : decode cL_law 356 = .ok (.iload_n 3, 1) := by decide +kernel
theorem dL_law_357 : decode cL_law 357 = .ok (.iconst 2, 1) := by decide +kernel
theorem dL_law_358 : decode cL_law 358 = .ok (.iadd, 1) := by decide +kernel
theorem dL_law_359 : decode cL_law 359 = .ok (.iaload, 1) := by decide +kernel
theorem dL_law_360 : decode cL_law 360 = .ok (.aload_n 0, 1) := by decide +kernel
theorem dL_law_361 : decode cL_law 361 = .ok (.iload_n 3, 1) := by decide +kernel
theorem dL_law_362 : decode cL_law 362 = .ok (.iconst 3, 1) := by decide +kernel
theorem dL_law_363 : decode cL_law 363 = .ok (.iadd, 1) := by decide +kernel
theorem dL_law_364 : decode cL_law 364 = .ok (.iaload, 1) := by decide +kernel
theorem dL_law_365 : decode cL_law 365 = .ok (.invokevirtual 31, 3) := by decide +kernel
theorem dL_law_368 : decode cL_law 368 = .ok (.aload_n 2, 1) := by decide +kernel
theorem dL_law_369 : decode cL_law 369 = .ok (.aload_n 0, 1) := by decide +kernel
theorem dL_law_370 : decode cL_law 370 = .ok (.iload_n 3, 1) := by decide +kernel
theorem dL_law_371 : decode cL_law 371 = .ok (.iconst 1, 1) := by decide +kernel
theorem dL_law_372 : decode cL_law 372 = .ok (.iadd, 1) := by decide +kernel
theorem dL_law_373 : decode cL_law 373 = .ok (.iaload, 1) := by decide +kernel
theorem dL_law_374 : decode cL_law 374 = .ok (.aload_n 0, 1) := by decide +kernel
theorem dL_law_375 : decode cL_law 375 = .ok (.iload_n 3, 1) := by decide +kernel
theorem dL_law_376 : decode cL_law 376 = .ok (.iconst 2, 1) := by decide +kernel
theorem dL_law_377 : decode cL_law 377 = .ok (.iadd, 1) := by decide +kernel
theorem dL_law_378 : decode cL_law 378 = .ok (.iaload, 1) := by decide +kernel
theorem dL_law_379 : decode cL_law 379 = .ok (.aload_n 0, 1) := by decide +kernel
theorem dL_law_380 : decode cL_law 380 = .ok (.iload_n 3, 1) := by decide +kernel
theorem dL_law_381 : decode cL_law 381 = .ok (.iconst 3, 1) := by decide +kernel
theorem dL_law_382 : decode cL_law 382 = .ok (.iadd, 1) := by decide +kernel
theorem dL_law_383 : decode cL_law 383 = .ok (.iaload, 1) := by decide +kernel
theorem dL_law_384 : decode cL_law 384 = .ok (.invokevirtual 34, 3) := by decide +kernel
theorem dL_law_387 : decode cL_law 387 = .ok (.if_icmp .eq 969, 3) := by decide +kernel
theorem dL_law_390 : decode cL_law 390 = .ok (.iconst 0, 1) := by decide +kernel
theorem dL_law_391 : decode cL_law 391 = .ok (.ireturn, 1) := by decide +kernel
theorem dL_law_392 : decode cL_law 392 = .ok (.aload_n 1, 1) := by decide +kernel
theorem dL_law_393 : decode cL_law 393 = .ok (.aload_n 0, 1) := by decide +kernel
theorem dL_law_394 : decode cL_law 394 = .ok (.iload_n 3, 1) := by decide +kernel
theorem dL_law_395 : decode cL_law 395 = .ok (.iconst 1, 1) := by decide +kernel
theorem dL_law_396 : decode cL_law 396 = .ok (.iadd, 1) := by decide +kernel
theorem dL_law_397 : decode cL_law 397 = .ok (.iaload, 1) := by decide +kernel
theorem dL_law_398 : decode cL_law 398 = .ok (.aload_n 0, 1) := by decide +kernel
theorem dL_law_399 : decode cL_law 399 = .ok (.iload_n 3, 1) := by decide +kernel
theorem dL_law_400 : decode cL_law 400 = .ok (.iconst 2, 1) := by decide +kernel
theorem dL_law_401 : decode cL_law 401 = .ok (.iadd, 1) := by decide +kernel
theorem dL_law_402 : decode cL_law 402 = .ok (.iaload, 1) := by decide +kernel
theorem dL_law_403 : decode cL_law 403 = .ok (.invokevirtual 35, 3) := by decide +kernel
theorem dL_law_406 : decode cL_law 406 = .ok (.aload_n 2, 1) := by decide +kernel
theorem dL_law_407 : decode cL_law 407 = .ok (.aload_n 0, 1) := by decide +kernel
theorem dL_law_408 : decode cL_law 408 = .ok (.iload_n 3, 1) := by decide +kernel
theorem dL_law_409 : decode cL_law 409 = .ok (.iconst 1, 1) := by decide +kernel
theorem dL_law_410 : decode cL_law 410 = .ok (.iadd, 1) := by decide +kernel
theorem dL_law_411 : decode cL_law 411 = .ok (.iaload, 1) := by decide +kernel
theorem dL_law_412 : decode cL_law 412 = .ok (.aload_n 0, 1) := by decide +kernel
theorem dL_law_413 : decode cL_law 413 = .ok (.iload_n 3, 1) := by decide +kernel
theorem dL_law_414 : decode cL_law 414 = .ok (.iconst 2, 1) := by decide +kernel
theorem dL_law_415 : decode cL_law 415 = .ok (.iadd, 1) := by decide +kernel
theorem dL_law_416 : decode cL_law 416 = .ok (.iaload, 1) := by decide +kernel
theorem dL_law_417 : decode cL_law 417 = .ok (.invokevirtual 39, 3) := by decide +kernel
theorem dL_law_420 : decode cL_law 420 = .ok (.if_icmp .eq 936, 3) := by decide +kernel
theorem dL_law_423 : decode cL_law 423 = .ok (.iconst 0, 1) := by decide +kernel
theorem dL_law_424 : decode cL_law 424 = .ok (.ireturn, 1) := by decide +kernel
theorem dL_law_425 : decode cL_law 425 = .ok (.aload_n 1, 1) := by decide +kernel
theorem dL_law_426 : decode cL_law 426 = .ok (.aload_n 0, 1) := by decide +kernel
theorem dL_law_427 : decode cL_law 427 = .ok (.iload_n 3, 1) := by decide +kernel
theorem dL_law_428 : decode cL_law 428 = .ok (.iconst 1, 1) := by decide +kernel
theorem dL_law_429 : decode cL_law 429 = .ok (.iadd, 1) := by decide +kernel
theorem dL_law_430 : decode cL_law 430 = .ok (.iaload, 1) := by decide +kernel
theorem dL_law_431 : decode cL_law 431 = .ok (.aload_n 0, 1) := by decide +kernel
theorem dL_law_432 : decode cL_law 432 = .ok (.iload_n 3, 1) := by decide +kernel
theorem dL_law_433 : decode cL_law 433 = .ok (.iconst 2, 1) := by decide +kernel
theorem dL_law_434 : decode cL_law 434 = .ok (.iadd, 1) := by decide +kernel
theorem dL_law_435 : decode cL_law 435 = .ok (.iaload, 1) := by decide +kernel
theorem dL_law_436 : decode cL_law 436 = .ok (.invokevirtual 40, 3) := by decide +kernel
theorem dL_law_439 : decode cL_law 439 = .ok (.aload_n 2, 1) := by decide +kernel
theorem dL_law_440 : decode cL_law 440 = .ok (.aload_n 0, 1) := by decide +kernel
theorem dL_law_441 : decode cL_law 441 = .ok (.iload_n 3, 1) := by decide +kernel
theorem dL_law_442 : decode cL_law 442 = .ok (.iconst 1, 1) := by decide +kernel
theorem dL_law_443 : decode cL_law 443 = .ok (.iadd, 1) := by decide +kernel
theorem dL_law_444 : decode cL_law 444 = .ok (.iaload, 1) := by decide +kernel
theorem dL_law_445 : decode cL_law 445 = .ok (.aload_n 0, 1) := by decide +kernel
theorem dL_law_446 : decode cL_law 446 = .ok (.iload_n 3, 1) := by decide +kernel
theorem dL_law_447 : decode cL_law 447 = .ok (.iconst 2, 1) := by decide +kernel
theorem dL_law_448 : decode cL_law 448 = .ok (.iadd, 1) := by decide +kernel
theorem dL_law_449 : decode cL_law 449 = .ok (.iaload, 1) := by decide +kernel
theorem dL_law_450 : decode cL_law 450 = .ok (.invokevirtual 44, 3) := by decide +kernel
theorem dL_law_453 : decode cL_law 453 = .ok (.lcmp, 1) := by decide +kernel
theorem dL_law_454 : decode cL_law 454 = .ok (.ifCond .eq 902, 3) := by decide +kernel
theorem dL_law_457 : decode cL_law 457 = .ok (.iconst 0, 1) := by decide +kernel
theorem dL_law_458 : decode cL_law 458 = .ok (.ireturn, 1) := by decide +kernel
theorem dL_law_459 : decode cL_law 459 = .ok (.aload_n 1, 1) := by decide +kernel
theorem dL_law_460 : decode cL_law 460 = .ok (.aload_n 0, 1) := by decide +kernel
theorem dL_law_461 : decode cL_law 461 = .ok (.iload_n 3, 1) := by decide +kernel
theorem dL_law_462 : decode cL_law 462 = .ok (.iconst 1, 1) := by decide +kernel
theorem dL_law_463 : decode cL_law 463 = .ok (.iadd, 1) := by decide +kernel
theorem dL_law_464 : decode cL_law 464 = .ok (.iaload, 1) := by decide +kernel
theorem dL_law_465 : decode cL_law 465 = .ok (.aload_n 0, 1) := by decide +kernel
theorem dL_law_466 : decode cL_law 466 = .ok (.iload_n 3, 1) := by decide +kernel
theorem dL_law_467 : decode cL_law 467 = .ok (.iconst 2, 1) := by decide +kernel
theorem dL_law_468 : decode cL_law 468 = .ok (.iadd, 1) := by decide +kernel
theorem dL_law_469 : decode cL_law 469 = .ok (.iaload, 1) := by decide +kernel
theorem dL_law_470 : decode cL_law 470 = .ok (.invokevirtual 45, 3) := by decide +kernel
theorem dL_law_473 : decode cL_law 473 = .ok (.aload_n 2, 1) := by decide +kernel
theorem dL_law_474 : decode cL_law 474 = .ok (.aload_n 0, 1) := by decide +kernel
theorem dL_law_475 : decode cL_law 475 = .ok (.iload_n 3, 1) := by decide +kernel
theorem dL_law_476 : decode cL_law 476 = .ok (.iconst 1, 1) := by decide +kernel
theorem dL_law_477 : decode cL_law 477 = .ok (.iadd, 1) := by decide +kernel
theorem dL_law_478 : decode cL_law 478 = .ok (.iaload, 1) := by decide +kernel
theorem dL_law_479 : decode cL_law 479 = .ok (.aload_n 0, 1) := by decide +kernel
theorem dL_law_480 : decode cL_law 480 = .ok (.iload_n 3, 1) := by decide +kernel
theorem dL_law_481 : decode cL_law 481 = .ok (.iconst 2, 1) := by decide +kernel
theorem dL_law_482 : decode cL_law 482 = .ok (.iadd, 1) := by decide +kernel
theorem dL_law_483 : decode cL_law 483 = .ok (.iaload, 1) := by decide +kernel
theorem dL_law_484 : decode cL_law 484 = .ok (.invokevirtual 48, 3) := by decide +kernel
theorem dL_law_487 : decode cL_law 487 = .ok (.if_icmp .eq 869, 3) := by decide +kernel
theorem dL_law_490 : decode cL_law 490 = .ok (.iconst 0, 1) := by decide +kernel
theorem dL_law_491 : decode cL_law 491 = .ok (.ireturn, 1) := by decide +kernel
theorem dL_law_492 : decode cL_law 492 = .ok (.aload_n 1, 1) := by decide +kernel
theorem dL_law_493 : decode cL_law 493 = .ok (.aload_n 0, 1) := by decide +kernel
theorem dL_law_494 : decode cL_law 494 = .ok (.iload_n 3, 1) := by decide +kernel
theorem dL_law_495 : decode cL_law 495 = .ok (.iconst 1, 1) := by decide +kernel
theorem dL_law_496 : decode cL_law 496 = .ok (.iadd, 1) := by decide +kernel
theorem dL_law_497 : decode cL_law 497 = .ok (.iaload, 1) := by decide +kernel
theorem dL_law_498 : decode cL_law 498 = .ok (.aload_n 0, 1) := by decide +kernel
theorem dL_law_499 : decode cL_law 499 = .ok (.iload_n 3, 1) := by decide +kernel
theorem dL_law_500 : decode cL_law 500 = .ok (.iconst 2, 1) := by decide +kernel
theorem dL_law_501 : decode cL_law 501 = .ok (.iadd, 1) := by decide +kernel
theorem dL_law_502 : decode cL_law 502 = .ok (.iaload, 1) := by decide +kernel
theorem dL_law_503 : decode cL_law 503 = .ok (.i2l, 1) := by decide +kernel
theorem dL_law_504 : decode cL_law 504 = .ok (.bipush 32, 2) := by decide +kernel
theorem dL_law_506 : decode cL_law 506 = .ok (.lshl, 1) := by decide +kernel
theorem dL_law_507 : decode cL_law 507 = .ok (.aload_n 0, 1) := by decide +kernel
theorem dL_law_508 : decode cL_law 508 = .ok (.iload_n 3, 1) := by decide +kernel
theorem dL_law_509 : decode cL_law 509 = .ok (.iconst 3, 1) := by decide +kernel
theorem dL_law_510 : decode cL_law 510 = .ok (.iadd, 1) := by decide +kernel
theorem dL_law_511 : decode cL_law 511 = .ok (.iaload, 1) := by decide +kernel
theorem dL_law_512 : decode cL_law 512 = .ok (.i2l, 1) := by decide +kernel
theorem dL_law_513 : decode cL_law 513 = .ok (.ldc2_w 49, 3) := by decide +kernel
theorem dL_law_516 : decode cL_law 516 = .ok (.land, 1) := by decide +kernel
theorem dL_law_517 : decode cL_law 517 = .ok (.lor, 1) := by decide +kernel
theorem dL_law_518 : decode cL_law 518 = .ok (.invokevirtual 51, 3) := by decide +kernel
theorem dL_law_521 : decode cL_law 521 = .ok (.aload_n 2, 1) := by decide +kernel
theorem dL_law_522 : decode cL_law 522 = .ok (.aload_n 0, 1) := by decide +kernel
theorem dL_law_523 : decode cL_law 523 = .ok (.iload_n 3, 1) := by decide +kernel
theorem dL_law_524 : decode cL_law 524 = .ok (.iconst 1, 1) := by decide +kernel
theorem dL_law_525 : decode cL_law 525 = .ok (.iadd, 1) := by decide +kernel
theorem dL_law_526 : decode cL_law 526 = .ok (.iaload, 1) := by decide +kernel
theorem dL_law_527 : decode cL_law 527 = .ok (.aload_n 0, 1) := by decide +kernel
theorem dL_law_528 : decode cL_law 528 = .ok (.iload_n 3, 1) := by decide +kernel
theorem dL_law_529 : decode cL_law 529 = .ok (.iconst 2, 1) := by decide +kernel
theorem dL_law_530 : decode cL_law 530 = .ok (.iadd, 1) := by decide +kernel
theorem dL_law_531 : decode cL_law 531 = .ok (.iaload, 1) := by decide +kernel
theorem dL_law_532 : decode cL_law 532 = .ok (.i2l, 1) := by decide +kernel
theorem dL_law_533 : decode cL_law 533 = .ok (.bipush 32, 2) := by decide +kernel
theorem dL_law_535 : decode cL_law 535 = .ok (.lshl, 1) := by decide +kernel
theorem dL_law_536 : decode cL_law 536 = .ok (.aload_n 0, 1) := by decide +kernel
theorem dL_law_537 : decode cL_law 537 = .ok (.iload_n 3, 1) := by decide +kernel
theorem dL_law_538 : decode cL_law 538 = .ok (.iconst 3, 1) := by decide +kernel
theorem dL_law_539 : decode cL_law 539 = .ok (.iadd, 1) := by decide +kernel
theorem dL_law_540 : decode cL_law 540 = .ok (.iaload, 1) := by decide +kernel
theorem dL_law_541 : decode cL_law 541 = .ok (.i2l, 1) := by decide +kernel
theorem dL_law_542 : decode cL_law 542 = .ok (.ldc2_w 49, 3) := by decide +kernel
theorem dL_law_545 : decode cL_law 545 = .ok (.land, 1) := by decide +kernel
theorem dL_law_546 : decode cL_law 546 = .ok (.lor, 1) := by decide +kernel
theorem dL_law_547 : decode cL_law 547 = .ok (.invokevirtual 55, 3) := by decide +kernel
theorem dL_law_550 : decode cL_law 550 = .ok (.if_icmp .eq 806, 3) := by decide +kernel
theorem dL_law_553 : decode cL_law 553 = .ok (.iconst 0, 1) := by decide +kernel
theorem dL_law_554 : decode cL_law 554 = .ok (.ireturn, 1) := by decide +kernel
theorem dL_law_555 : decode cL_law 555 = .ok (.aload_n 1, 1) := by decide +kernel
theorem dL_law_556 : decode cL_law 556 = .ok (.invokevirtual 56, 3) := by decide +kernel
theorem dL_law_559 : decode cL_law 559 = .ok (.aload_n 2, 1) := by decide +kernel
theorem dL_law_560 : decode cL_law 560 = .ok (.invokevirtual 60, 3) := by decide +kernel
theorem dL_law_563 : decode cL_law 563 = .ok (.if_icmp .eq 793, 3) := by decide +kernel
theorem dL_law_566 : decode cL_law 566 = .ok (.iconst 0, 1) := by decide +kernel
theorem dL_law_567 : decode cL_law 567 = .ok (.ireturn, 1) := by decide +kernel
theorem dL_law_568 : decode cL_law 568 = .ok (.aload_n 1, 1) := by decide +kernel
theorem dL_law_569 : decode cL_law 569 = .ok (.aload_n 0, 1) := by decide +kernel
theorem dL_law_570 : decode cL_law 570 = .ok (.iload_n 3, 1) := by decide +kernel
theorem dL_law_571 : decode cL_law 571 = .ok (.iconst 1, 1) := by decide +kernel
theorem dL_law_572 : decode cL_law 572 = .ok (.iadd, 1) := by decide +kernel
theorem dL_law_573 : decode cL_law 573 = .ok (.iaload, 1) := by decide +kernel
theorem dL_law_574 : decode cL_law 574 = .ok (.invokevirtual 61, 3) := by decide +kernel
theorem dL_law_577 : decode cL_law 577 = .ok (.aload_n 2, 1) := by decide +kernel
theorem dL_law_578 : decode cL_law 578 = .ok (.aload_n 0, 1) := by decide +kernel
theorem dL_law_579 : decode cL_law 579 = .ok (.iload_n 3, 1) := by decide +kernel
theorem dL_law_580 : decode cL_law 580 = .ok (.iconst 1, 1) := by decide +kernel
theorem dL_law_581 : decode cL_law 581 = .ok (.iadd, 1) := by decide +kernel
theorem dL_law_582 : decode cL_law 582 = .ok (.iaload, 1) := by decide +kernel
theorem dL_law_583 : decode cL_law 583 = .ok (.invokevirtual 65, 3) := by decide +kernel
theorem dL_law_586 : decode cL_law 586 = .ok (.if_icmp .eq 770, 3) := by decide +kernel
theorem dL_law_589 : decode cL_law 589 = .ok (.iconst 0, 1) := by decide +kernel
theorem dL_law_590 : decode cL_law 590 = .ok (.ireturn, 1) := by decide +kernel
theorem dL_law_591 : decode cL_law 591 = .ok (.aload_n 1, 1) := by decide +kernel
theorem dL_law_592 : decode cL_law 592 = .ok (.aload_n 0, 1) := by decide +kernel
theorem dL_law_593 : decode cL_law 593 = .ok (.iload_n 3, 1) := by decide +kernel
theorem dL_law_594 : decode cL_law 594 = .ok (.iconst 1, 1) := by decide +kernel
theorem dL_law_595 : decode cL_law 595 = .ok (.iadd, 1) := by decide +kernel
theorem dL_law_596 : decode cL_law 596 = .ok (.iaload, 1) := by decide +kernel
theorem dL_law_597 : decode cL_law 597 = .ok (.aload_n 0, 1) := by decide +kernel
theorem dL_law_598 : decode cL_law 598 = .ok (.iload_n 3, 1) := by decide +kernel
theorem dL_law_599 : decode cL_law 599 = .ok (.iconst 2, 1) := by decide +kernel
theorem dL_law_600 : decode cL_law 600 = .ok (.iadd, 1) := by decide +kernel
theorem dL_law_601 : decode cL_law 601 = .ok (.iaload, 1) := by decide +kernel
theorem dL_law_602 : decode cL_law 602 = .ok (.aload_n 0, 1) := by decide +kernel
theorem dL_law_603 : decode cL_law 603 = .ok (.iload_n 3, 1) := by decide +kernel
theorem dL_law_604 : decode cL_law 604 = .ok (.iconst 3, 1) := by decide +kernel
theorem dL_law_605 : decode cL_law 605 = .ok (.iadd, 1) := by decide +kernel
theorem dL_law_606 : decode cL_law 606 = .ok (.iaload, 1) := by decide +kernel
theorem dL_law_607 : decode cL_law 607 = .ok (.aload_n 0, 1) := by decide +kernel
theorem dL_law_608 : decode cL_law 608 = .ok (.iload_n 3, 1) := by decide +kernel
theorem dL_law_609 : decode cL_law 609 = .ok (.iconst 4, 1) := by decide +kernel
theorem dL_law_610 : decode cL_law 610 = .ok (.iadd, 1) := by decide +kernel
theorem dL_law_611 : decode cL_law 611 = .ok (.iaload, 1) := by decide +kernel
theorem dL_law_612 : decode cL_law 612 = .ok (.invokevirtual 66, 3) := by decide +kernel
theorem dL_law_615 : decode cL_law 615 = .ok (.aload_n 2, 1) := by decide +kernel
theorem dL_law_616 : decode cL_law 616 = .ok (.aload_n 0, 1) := by decide +kernel
theorem dL_law_617 : decode cL_law 617 = .ok (.iload_n 3, 1) := by decide +kernel
theorem dL_law_618 : decode cL_law 618 = .ok (.iconst 1, 1) := by decide +kernel
theorem dL_law_619 : decode cL_law 619 = .ok (.iadd, 1) := by decide +kernel
theorem dL_law_620 : decode cL_law 620 = .ok (.iaload, 1) := by decide +kernel
theorem dL_law_621 : decode cL_law 621 = .ok (.aload_n 0, 1) := by decide +kernel
theorem dL_law_622 : decode cL_law 622 = .ok (.iload_n 3, 1) := by decide +kernel
theorem dL_law_623 : decode cL_law 623 = .ok (.iconst 2, 1) := by decide +kernel
theorem dL_law_624 : decode cL_law 624 = .ok (.iadd, 1) := by decide +kernel
theorem dL_law_625 : decode cL_law 625 = .ok (.iaload, 1) := by decide +kernel
theorem dL_law_626 : decode cL_law 626 = .ok (.aload_n 0, 1) := by decide +kernel
theorem dL_law_627 : decode cL_law 627 = .ok (.iload_n 3, 1) := by decide +kernel
theorem dL_law_628 : decode cL_law 628 = .ok (.iconst 3, 1) := by decide +kernel
theorem dL_law_629 : decode cL_law 629 = .ok (.iadd, 1) := by decide +kernel
theorem dL_law_630 : decode cL_law 630 = .ok (.iaload, 1) := by decide +kernel
theorem dL_law_631 : decode cL_law 631 = .ok (.aload_n 0, 1) := by decide +kernel
theorem dL_law_632 : decode cL_law 632 = .ok (.iload_n 3, 1) := by decide +kernel
theorem dL_law_633 : decode cL_law 633 = .ok (.iconst 4, 1) := by decide +kernel
theorem dL_law_634 : decode cL_law 634 = .ok (.iadd, 1) := by decide +kernel
theorem dL_law_635 : decode cL_law 635 = .ok (.iaload, 1) := by decide +kernel
theorem dL_law_636 : decode cL_law 636 = .ok (.invokevirtual 70, 3) := by decide +kernel
theorem dL_law_639 : decode cL_law 639 = .ok (.lcmp, 1) := by decide +kernel
theorem dL_law_640 : decode cL_law 640 = .ok (.ifCond .eq 716, 3) := by decide +kernel
theorem dL_law_643 : decode cL_law 643 = .ok (.iconst 0, 1) := by decide +kernel
theorem dL_law_644 : decode cL_law 644 = .ok (.ireturn, 1) := by decide +kernel
theorem dL_law_645 : decode cL_law 645 = .ok (.aload_n 1, 1) := by decide +kernel
theorem dL_law_646 : decode cL_law 646 = .ok (.aload_n 0, 1) := by decide +kernel
theorem dL_law_647 : decode cL_law 647 = .ok (.iload_n 3, 1) := by decide +kernel
theorem dL_law_648 : decode cL_law 648 = .ok (.iconst 1, 1) := by decide +kernel
theorem dL_law_649 : decode cL_law 649 = .ok (.iadd, 1) := by decide +kernel
theorem dL_law_650 : decode cL_law 650 = .ok (.iaload, 1) := by decide +kernel
theorem dL_law_651 : decode cL_law 651 = .ok (.invokevirtual 71, 3) := by decide +kernel
theorem dL_law_654 : decode cL_law 654 = .ok (.aload_n 2, 1) := by decide +kernel
theorem dL_law_655 : decode cL_law 655 = .ok (.aload_n 0, 1) := by decide +kernel
theorem dL_law_656 : decode cL_law 656 = .ok (.iload_n 3, 1) := by decide +kernel
theorem dL_law_657 : decode cL_law 657 = .ok (.iconst 1, 1) := by decide +kernel
theorem dL_law_658 : decode cL_law 658 = .ok (.iadd, 1) := by decide +kernel
theorem dL_law_659 : decode cL_law 659 = .ok (.iaload, 1) := by decide +kernel
theorem dL_law_660 : decode cL_law 660 = .ok (.invokevirtual 74, 3) := by decide +kernel
theorem dL_law_663 : decode cL_law 663 = .ok (.if_icmp .eq 693, 3) := by decide +kernel
theorem dL_law_666 : decode cL_law 666 = .ok (.iconst 0, 1) := by decide +kernel
theorem dL_law_667 : decode cL_law 667 = .ok (.ireturn, 1) := by decide +kernel
theorem dL_law_668 : decode cL_law 668 = .ok (.aload_n 1, 1) := by decide +kernel
theorem dL_law_669 : decode cL_law 669 = .ok (.aload_n 0, 1) := by decide +kernel
theorem dL_law_670 : decode cL_law 670 = .ok (.iload_n 3, 1) := by decide +kernel
theorem dL_law_671 : decode cL_law 671 = .ok (.iconst 1, 1) := by decide +kernel
theorem dL_law_672 : decode cL_law 672 = .ok (.iadd, 1) := by decide +kernel
theorem dL_law_673 : decode cL_law 673 = .ok (.iaload, 1) := by decide +kernel
theorem dL_law_674 : decode cL_law 674 = .ok (.aload_n 0, 1) := by decide +kernel
theorem dL_law_675 : decode cL_law 675 = .ok (.iload_n 3, 1) := by decide +kernel
theorem dL_law_676 : decode cL_law 676 = .ok (.iconst 2, 1) := by decide +kernel
theorem dL_law_677 : decode cL_law 677 = .ok (.iadd, 1) := by decide +kernel
theorem dL_law_678 : decode cL_law 678 = .ok (.iaload, 1) := by decide +kernel
theorem dL_law_679 : decode cL_law 679 = .ok (.aload_n 0, 1) := by decide +kernel
theorem dL_law_680 : decode cL_law 680 = .ok (.iload_n 3, 1) := by decide +kernel
theorem dL_law_681 : decode cL_law 681 = .ok (.iconst 3, 1) := by decide +kernel
theorem dL_law_682 : decode cL_law 682 = .ok (.iadd, 1) := by decide +kernel
theorem dL_law_683 : decode cL_law 683 = .ok (.iaload, 1) := by decide +kernel
theorem dL_law_684 : decode cL_law 684 = .ok (.aload_n 0, 1) := by decide +kernel
theorem dL_law_685 : decode cL_law 685 = .ok (.iload_n 3, 1) := by decide +kernel
theorem dL_law_686 : decode cL_law 686 = .ok (.iconst 4, 1) := by decide +kernel
theorem dL_law_687 : decode cL_law 687 = .ok (.iadd, 1) := by decide +kernel
theorem dL_law_688 : decode cL_law 688 = .ok (.iaload, 1) := by decide +kernel
theorem dL_law_689 : decode cL_law 689 = .ok (.aload_n 0, 1) := by decide +kernel
theorem dL_law_690 : decode cL_law 690 = .ok (.iload_n 3, 1) := by decide +kernel
theorem dL_law_691 : decode cL_law 691 = .ok (.iconst 5, 1) := by decide +kernel
theorem dL_law_692 : decode cL_law 692 = .ok (.iadd, 1) := by decide +kernel
theorem dL_law_693 : decode cL_law 693 = .ok (.iaload, 1) := by decide +kernel
theorem dL_law_694 : decode cL_law 694 = .ok (.invokevirtual 75, 3) := by decide +kernel
theorem dL_law_697 : decode cL_law 697 = .ok (.aload_n 2, 1) := by decide +kernel
theorem dL_law_698 : decode cL_law 698 = .ok (.aload_n 0, 1) := by decide +kernel
theorem dL_law_699 : decode cL_law 699 = .ok (.iload_n 3, 1) := by decide +kernel
theorem dL_law_700 : decode cL_law 700 = .ok (.iconst 1, 1) := by decide +kernel
theorem dL_law_701 : decode cL_law 701 = .ok (.iadd, 1) := by decide +kernel
theorem dL_law_702 : decode cL_law 702 = .ok (.iaload, 1) := by decide +kernel
theorem dL_law_703 : decode cL_law 703 = .ok (.aload_n 0, 1) := by decide +kernel
theorem dL_law_704 : decode cL_law 704 = .ok (.iload_n 3, 1) := by decide +kernel
theorem dL_law_705 : decode cL_law 705 = .ok (.iconst 2, 1) := by decide +kernel
theorem dL_law_706 : decode cL_law 706 = .ok (.iadd, 1) := by decide +kernel
theorem dL_law_707 : decode cL_law 707 = .ok (.iaload, 1) := by decide +kernel
theorem dL_law_708 : decode cL_law 708 = .ok (.aload_n 0, 1) := by decide +kernel
theorem dL_law_709 : decode cL_law 709 = .ok (.iload_n 3, 1) := by decide +kernel
theorem dL_law_710 : decode cL_law 710 = .ok (.iconst 3, 1) := by decide +kernel
theorem dL_law_711 : decode cL_law 711 = .ok (.iadd, 1) := by decide +kernel
theorem dL_law_712 : decode cL_law 712 = .ok (.iaload, 1) := by decide +kernel
theorem dL_law_713 : decode cL_law 713 = .ok (.aload_n 0, 1) := by decide +kernel
theorem dL_law_714 : decode cL_law 714 = .ok (.iload_n 3, 1) := by decide +kernel
theorem dL_law_715 : decode cL_law 715 = .ok (.iconst 4, 1) := by decide +kernel
theorem dL_law_716 : decode cL_law 716 = .ok (.iadd, 1) := by decide +kernel
theorem dL_law_717 : decode cL_law 717 = .ok (.iaload, 1) := by decide +kernel
theorem dL_law_718 : decode cL_law 718 = .ok (.aload_n 0, 1) := by decide +kernel
theorem dL_law_719 : decode cL_law 719 = .ok (.iload_n 3, 1) := by decide +kernel
theorem dL_law_720 : decode cL_law 720 = .ok (.iconst 5, 1) := by decide +kernel
theorem dL_law_721 : decode cL_law 721 = .ok (.iadd, 1) := by decide +kernel
theorem dL_law_722 : decode cL_law 722 = .ok (.iaload, 1) := by decide +kernel
theorem dL_law_723 : decode cL_law 723 = .ok (.invokevirtual 79, 3) := by decide +kernel
theorem dL_law_726 : decode cL_law 726 = .ok (.if_icmp .eq 630, 3) := by decide +kernel
theorem dL_law_729 : decode cL_law 729 = .ok (.iconst 0, 1) := by decide +kernel
theorem dL_law_730 : decode cL_law 730 = .ok (.ireturn, 1) := by decide +kernel
theorem dL_law_731 : decode cL_law 731 = .ok (.aload_n 1, 1) := by decide +kernel
theorem dL_law_732 : decode cL_law 732 = .ok (.aload_n 0, 1) := by decide +kernel
theorem dL_law_733 : decode cL_law 733 = .ok (.iload_n 3, 1) := by decide +kernel
theorem dL_law_734 : decode cL_law 734 = .ok (.iconst 1, 1) := by decide +kernel
theorem dL_law_735 : decode cL_law 735 = .ok (.iadd, 1) := by decide +kernel
theorem dL_law_736 : decode cL_law 736 = .ok (.iaload, 1) := by decide +kernel
theorem dL_law_737 : decode cL_law 737 = .ok (.aload_n 0, 1) := by decide +kernel
theorem dL_law_738 : decode cL_law 738 = .ok (.iload_n 3, 1) := by decide +kernel
theorem dL_law_739 : decode cL_law 739 = .ok (.iconst 2, 1) := by decide +kernel
theorem dL_law_740 : decode cL_law 740 = .ok (.iadd, 1) := by decide +kernel
theorem dL_law_741 : decode cL_law 741 = .ok (.iaload, 1) := by decide +kernel
theorem dL_law_742 : decode cL_law 742 = .ok (.invokevirtual 80, 3) := by decide +kernel
theorem dL_law_745 : decode cL_law 745 = .ok (.aload_n 2, 1) := by decide +kernel
theorem dL_law_746 : decode cL_law 746 = .ok (.aload_n 0, 1) := by decide +kernel
theorem dL_law_747 : decode cL_law 747 = .ok (.iload_n 3, 1) := by decide +kernel
theorem dL_law_748 : decode cL_law 748 = .ok (.iconst 1, 1) := by decide +kernel
theorem dL_law_749 : decode cL_law 749 = .ok (.iadd, 1) := by decide +kernel
theorem dL_law_750 : decode cL_law 750 = .ok (.iaload, 1) := by decide +kernel
theorem dL_law_751 : decode cL_law 751 = .ok (.aload_n 0, 1) := by decide +kernel
theorem dL_law_752 : decode cL_law 752 = .ok (.iload_n 3, 1) := by decide +kernel
theorem dL_law_753 : decode cL_law 753 = .ok (.iconst 2, 1) := by decide +kernel
theorem dL_law_754 : decode cL_law 754 = .ok (.iadd, 1) := by decide +kernel
theorem dL_law_755 : decode cL_law 755 = .ok (.iaload, 1) := by decide +kernel
theorem dL_law_756 : decode cL_law 756 = .ok (.invokevirtual 83, 3) := by decide +kernel
theorem dL_law_759 : decode cL_law 759 = .ok (.lcmp, 1) := by decide +kernel
theorem dL_law_760 : decode cL_law 760 = .ok (.ifCond .eq 596, 3) := by decide +kernel
theorem dL_law_763 : decode cL_law 763 = .ok (.iconst 0, 1) := by decide +kernel
theorem dL_law_764 : decode cL_law 764 = .ok (.ireturn, 1) := by decide +kernel
theorem dL_law_765 : decode cL_law 765 = .ok (.aload_n 1, 1) := by decide +kernel
theorem dL_law_766 : decode cL_law 766 = .ok (.invokevirtual 84, 3) := by decide +kernel
theorem dL_law_769 : decode cL_law 769 = .ok (.aload_n 2, 1) := by decide +kernel
theorem dL_law_770 : decode cL_law 770 = .ok (.invokevirtual 87, 3) := by decide +kernel
theorem dL_law_773 : decode cL_law 773 = .ok (.if_icmp .eq 583, 3) := by decide +kernel
theorem dL_law_776 : decode cL_law 776 = .ok (.iconst 0, 1) := by decide +kernel
theorem dL_law_777 : decode cL_law 777 = .ok (.ireturn, 1) := by decide +kernel
theorem dL_law_778 : decode cL_law 778 = .ok (.aload_n 1, 1) := by decide +kernel
theorem dL_law_779 : decode cL_law 779 = .ok (.aload_n 0, 1) := by decide +kernel
theorem dL_law_780 : decode cL_law 780 = .ok (.iload_n 3, 1) := by decide +kernel
theorem dL_law_781 : decode cL_law 781 = .ok (.iconst 1, 1) := by decide +kernel
theorem dL_law_782 : decode cL_law 782 = .ok (.iadd, 1) := by decide +kernel
theorem dL_law_783 : decode cL_law 783 = .ok (.iaload, 1) := by decide +kernel
theorem dL_law_784 : decode cL_law 784 = .ok (.aload_n 0, 1) := by decide +kernel
theorem dL_law_785 : decode cL_law 785 = .ok (.iload_n 3, 1) := by decide +kernel
theorem dL_law_786 : decode cL_law 786 = .ok (.iconst 2, 1) := by decide +kernel
theorem dL_law_787 : decode cL_law 787 = .ok (.iadd, 1) := by decide +kernel
theorem dL_law_788 : decode cL_law 788 = .ok (.iaload, 1) := by decide +kernel
theorem dL_law_789 : decode cL_law 789 = .ok (.aload_n 0, 1) := by decide +kernel
theorem dL_law_790 : decode cL_law 790 = .ok (.iload_n 3, 1) := by decide +kernel
theorem dL_law_791 : decode cL_law 791 = .ok (.iconst 3, 1) := by decide +kernel
theorem dL_law_792 : decode cL_law 792 = .ok (.iadd, 1) := by decide +kernel
theorem dL_law_793 : decode cL_law 793 = .ok (.iaload, 1) := by decide +kernel
theorem dL_law_794 : decode cL_law 794 = .ok (.aload_n 0, 1) := by decide +kernel
theorem dL_law_795 : decode cL_law 795 = .ok (.iload_n 3, 1) := by decide +kernel
theorem dL_law_796 : decode cL_law 796 = .ok (.iconst 4, 1) := by decide +kernel
theorem dL_law_797 : decode cL_law 797 = .ok (.iadd, 1) := by decide +kernel
theorem dL_law_798 : decode cL_law 798 = .ok (.iaload, 1) := by decide +kernel
theorem dL_law_799 : decode cL_law 799 = .ok (.invokevirtual 88, 3) := by decide +kernel
theorem dL_law_802 : decode cL_law 802 = .ok (.aload_n 2, 1) := by decide +kernel
theorem dL_law_803 : decode cL_law 803 = .ok (.aload_n 0, 1) := by decide +kernel
theorem dL_law_804 : decode cL_law 804 = .ok (.iload_n 3, 1) := by decide +kernel
theorem dL_law_805 : decode cL_law 805 = .ok (.iconst 1, 1) := by decide +kernel
theorem dL_law_806 : decode cL_law 806 = .ok (.iadd, 1) := by decide +kernel
theorem dL_law_807 : decode cL_law 807 = .ok (.iaload, 1) := by decide +kernel
theorem dL_law_808 : decode cL_law 808 = .ok (.aload_n 0, 1) := by decide +kernel
theorem dL_law_809 : decode cL_law 809 = .ok (.iload_n 3, 1) := by decide +kernel
theorem dL_law_810 : decode cL_law 810 = .ok (.iconst 2, 1) := by decide +kernel
theorem dL_law_811 : decode cL_law 811 = .ok (.iadd, 1) := by decide +kernel
theorem dL_law_812 : decode cL_law 812 = .ok (.iaload, 1) := by decide +kernel
theorem dL_law_813 : decode cL_law 813 = .ok (.aload_n 0, 1) := by decide +kernel
theorem dL_law_814 : decode cL_law 814 = .ok (.iload_n 3, 1) := by decide +kernel
theorem dL_law_815 : decode cL_law 815 = .ok (.iconst 3, 1) := by decide +kernel
theorem dL_law_816 : decode cL_law 816 = .ok (.iadd, 1) := by decide +kernel
theorem dL_law_817 : decode cL_law 817 = .ok (.iaload, 1) := by decide +kernel
theorem dL_law_818 : decode cL_law 818 = .ok (.aload_n 0, 1) := by decide +kernel
theorem dL_law_819 : decode cL_law 819 = .ok (.iload_n 3, 1) := by decide +kernel
theorem dL_law_820 : decode cL_law 820 = .ok (.iconst 4, 1) := by decide +kernel
theorem dL_law_821 : decode cL_law 821 = .ok (.iadd, 1) := by decide +kernel
theorem dL_law_822 : decode cL_law 822 = .ok (.iaload, 1) := by decide +kernel
theorem dL_law_823 : decode cL_law 823 = .ok (.invokevirtual 92, 3) := by decide +kernel
theorem dL_law_826 : decode cL_law 826 = .ok (.if_icmp .eq 530, 3) := by decide +kernel
theorem dL_law_829 : decode cL_law 829 = .ok (.iconst 0, 1) := by decide +kernel
theorem dL_law_830 : decode cL_law 830 = .ok (.ireturn, 1) := by decide +kernel
theorem dL_law_831 : decode cL_law 831 = .ok (.aload_n 1, 1) := by decide +kernel
theorem dL_law_832 : decode cL_law 832 = .ok (.aload_n 0, 1) := by decide +kernel
theorem dL_law_833 : decode cL_law 833 = .ok (.iload_n 3, 1) := by decide +kernel
theorem dL_law_834 : decode cL_law 834 = .ok (.iconst 1, 1) := by decide +kernel
theorem dL_law_835 : decode cL_law 835 = .ok (.iadd, 1) := by decide +kernel
theorem dL_law_836 : decode cL_law 836 = .ok (.iaload, 1) := by decide +kernel
theorem dL_law_837 : decode cL_law 837 = .ok (.aload_n 0, 1) := by decide +kernel
theorem dL_law_838 : decode cL_law 838 = .ok (.iload_n 3, 1) := by decide +kernel
theorem dL_law_839 : decode cL_law 839 = .ok (.iconst 2, 1) := by decide +kernel
theorem dL_law_840 : decode cL_law 840 = .ok (.iadd, 1) := by decide +kernel
theorem dL_law_841 : decode cL_law 841 = .ok (.iaload, 1) := by decide +kernel
theorem dL_law_842 : decode cL_law 842 = .ok (.aload_n 0, 1) := by decide +kernel
theorem dL_law_843 : decode cL_law 843 = .ok (.iload_n 3, 1) := by decide +kernel
theorem dL_law_844 : decode cL_law 844 = .ok (.iconst 3, 1) := by decide +kernel
theorem dL_law_845 : decode cL_law 845 = .ok (.iadd, 1) := by decide +kernel
theorem dL_law_846 : decode cL_law 846 = .ok (.iaload, 1) := by decide +kernel
theorem dL_law_847 : decode cL_law 847 = .ok (.invokevirtual 93, 3) := by decide +kernel
theorem dL_law_850 : decode cL_law 850 = .ok (.aload_n 2, 1) := by decide +kernel
theorem dL_law_851 : decode cL_law 851 = .ok (.aload_n 0, 1) := by decide +kernel
theorem dL_law_852 : decode cL_law 852 = .ok (.iload_n 3, 1) := by decide +kernel
theorem dL_law_853 : decode cL_law 853 = .ok (.iconst 1, 1) := by decide +kernel
theorem dL_law_854 : decode cL_law 854 = .ok (.iadd, 1) := by decide +kernel
theorem dL_law_855 : decode cL_law 855 = .ok (.iaload, 1) := by decide +kernel
theorem dL_law_856 : decode cL_law 856 = .ok (.aload_n 0, 1) := by decide +kernel
theorem dL_law_857 : decode cL_law 857 = .ok (.iload_n 3, 1) := by decide +kernel
theorem dL_law_858 : decode cL_law 858 = .ok (.iconst 2, 1) := by decide +kernel
theorem dL_law_859 : decode cL_law 859 = .ok (.iadd, 1) := by decide +kernel
theorem dL_law_860 : decode cL_law 860 = .ok (.iaload, 1) := by decide +kernel
theorem dL_law_861 : decode cL_law 861 = .ok (.aload_n 0, 1) := by decide +kernel
theorem dL_law_862 : decode cL_law 862 = .ok (.iload_n 3, 1) := by decide +kernel
theorem dL_law_863 : decode cL_law 863 = .ok (.iconst 3, 1) := by decide +kernel
theorem dL_law_864 : decode cL_law 864 = .ok (.iadd, 1) := by decide +kernel
theorem dL_law_865 : decode cL_law 865 = .ok (.iaload, 1) := by decide +kernel
theorem dL_law_866 : decode cL_law 866 = .ok (.invokevirtual 96, 3) := by decide +kernel
theorem dL_law_869 : decode cL_law 869 = .ok (.if_icmp .eq 487, 3) := by decide +kernel
theorem dL_law_872 : decode cL_law 872 = .ok (.iconst 0, 1) := by decide +kernel
theorem dL_law_873 : decode cL_law 873 = .ok (.ireturn, 1) := by decide +kernel
theorem dL_law_874 : decode cL_law 874 = .ok (.aload_n 1, 1) := by decide +kernel
theorem dL_law_875 : decode cL_law 875 = .ok (.aload_n 0, 1) := by decide +kernel
theorem dL_law_876 : decode cL_law 876 = .ok (.iload_n 3, 1) := by decide +kernel
theorem dL_law_877 : decode cL_law 877 = .ok (.iconst 1, 1) := by decide +kernel
theorem dL_law_878 : decode cL_law 878 = .ok (.iadd, 1) := by decide +kernel
theorem dL_law_879 : decode cL_law 879 = .ok (.iaload, 1) := by decide +kernel
theorem dL_law_880 : decode cL_law 880 = .ok (.aload_n 0, 1) := by decide +kernel
theorem dL_law_881 : decode cL_law 881 = .ok (.iload_n 3, 1) := by decide +kernel
theorem dL_law_882 : decode cL_law 882 = .ok (.iconst 2, 1) := by decide +kernel
theorem dL_law_883 : decode cL_law 883 = .ok (.iadd, 1) := by decide +kernel
theorem dL_law_884 : decode cL_law 884 = .ok (.iaload, 1) := by decide +kernel
theorem dL_law_885 : decode cL_law 885 = .ok (.aload_n 0, 1) := by decide +kernel
theorem dL_law_886 : decode cL_law 886 = .ok (.iload_n 3, 1) := by decide +kernel
theorem dL_law_887 : decode cL_law 887 = .ok (.iconst 3, 1) := by decide +kernel
theorem dL_law_888 : decode cL_law 888 = .ok (.iadd, 1) := by decide +kernel
theorem dL_law_889 : decode cL_law 889 = .ok (.iaload, 1) := by decide +kernel
theorem dL_law_890 : decode cL_law 890 = .ok (.invokevirtual 97, 3) := by decide +kernel
theorem dL_law_893 : decode cL_law 893 = .ok (.aload_n 2, 1) := by decide +kernel
theorem dL_law_894 : decode cL_law 894 = .ok (.aload_n 0, 1) := by decide +kernel
theorem dL_law_895 : decode cL_law 895 = .ok (.iload_n 3, 1) := by decide +kernel
theorem dL_law_896 : decode cL_law 896 = .ok (.iconst 1, 1) := by decide +kernel
theorem dL_law_897 : decode cL_law 897 = .ok (.iadd, 1) := by decide +kernel
theorem dL_law_898 : decode cL_law 898 = .ok (.iaload, 1) := by decide +kernel
theorem dL_law_899 : decode cL_law 899 = .ok (.aload_n 0, 1) := by decide +kernel
theorem dL_law_900 : decode cL_law 900 = .ok (.iload_n 3, 1) := by decide +kernel
theorem dL_law_901 : decode cL_law 901 = .ok (.iconst 2, 1) := by decide +kernel
theorem dL_law_902 : decode cL_law 902 = .ok (.iadd, 1) := by decide +kernel
theorem dL_law_903 : decode cL_law 903 = .ok (.iaload, 1) := by decide +kernel
theorem dL_law_904 : decode cL_law 904 = .ok (.aload_n 0, 1) := by decide +kernel
theorem dL_law_905 : decode cL_law 905 = .ok (.iload_n 3, 1) := by decide +kernel
theorem dL_law_906 : decode cL_law 906 = .ok (.iconst 3, 1) := by decide +kernel
theorem dL_law_907 : decode cL_law 907 = .ok (.iadd, 1) := by decide +kernel
theorem dL_law_908 : decode cL_law 908 = .ok (.iaload, 1) := by decide +kernel
theorem dL_law_909 : decode cL_law 909 = .ok (.invokevirtual 100, 3) := by decide +kernel
theorem dL_law_912 : decode cL_law 912 = .ok (.if_icmp .eq 444, 3) := by decide +kernel
theorem dL_law_915 : decode cL_law 915 = .ok (.iconst 0, 1) := by decide +kernel
theorem dL_law_916 : decode cL_law 916 = .ok (.ireturn, 1) := by decide +kernel
theorem dL_law_917 : decode cL_law 917 = .ok (.aload_n 1, 1) := by decide +kernel
theorem dL_law_918 : decode cL_law 918 = .ok (.aload_n 0, 1) := by decide +kernel
theorem dL_law_919 : decode cL_law 919 = .ok (.iload_n 3, 1) := by decide +kernel
theorem dL_law_920 : decode cL_law 920 = .ok (.iconst 1, 1) := by decide +kernel
theorem dL_law_921 : decode cL_law 921 = .ok (.iadd, 1) := by decide +kernel
theorem dL_law_922 : decode cL_law 922 = .ok (.iaload, 1) := by decide +kernel
theorem dL_law_923 : decode cL_law 923 = .ok (.aload_n 0, 1) := by decide +kernel
theorem dL_law_924 : decode cL_law 924 = .ok (.iload_n 3, 1) := by decide +kernel
theorem dL_law_925 : decode cL_law 925 = .ok (.iconst 2, 1) := by decide +kernel
theorem dL_law_926 : decode cL_law 926 = .ok (.iadd, 1) := by decide +kernel
theorem dL_law_927 : decode cL_law 927 = .ok (.iaload, 1) := by decide +kernel
theorem dL_law_928 : decode cL_law 928 = .ok (.aload_n 0, 1) := by decide +kernel
theorem dL_law_929 : decode cL_law 929 = .ok (.iload_n 3, 1) := by decide +kernel
theorem dL_law_930 : decode cL_law 930 = .ok (.iconst 3, 1) := by decide +kernel
theorem dL_law_931 : decode cL_law 931 = .ok (.iadd, 1) := by decide +kernel
theorem dL_law_932 : decode cL_law 932 = .ok (.iaload, 1) := by decide +kernel
theorem dL_law_933 : decode cL_law 933 = .ok (.invokevirtual 101, 3) := by decide +kernel
theorem dL_law_936 : decode cL_law 936 = .ok (.aload_n 2, 1) := by decide +kernel
theorem dL_law_937 : decode cL_law 937 = .ok (.aload_n 0, 1) := by decide +kernel
theorem dL_law_938 : decode cL_law 938 = .ok (.iload_n 3, 1) := by decide +kernel
theorem dL_law_939 : decode cL_law 939 = .ok (.iconst 1, 1) := by decide +kernel
theorem dL_law_940 : decode cL_law 940 = .ok (.iadd, 1) := by decide +kernel
theorem dL_law_941 : decode cL_law 941 = .ok (.iaload, 1) := by decide +kernel
theorem dL_law_942 : decode cL_law 942 = .ok (.aload_n 0, 1) := by decide +kernel
theorem dL_law_943 : decode cL_law 943 = .ok (.iload_n 3, 1) := by decide +kernel
theorem dL_law_944 : decode cL_law 944 = .ok (.iconst 2, 1) := by decide +kernel
theorem dL_law_945 : decode cL_law 945 = .ok (.iadd, 1) := by decide +kernel
theorem dL_law_946 : decode cL_law 946 = .ok (.iaload, 1) := by decide +kernel
theorem dL_law_947 : decode cL_law 947 = .ok (.aload_n 0, 1) := by decide +kernel
theorem dL_law_948 : decode cL_law 948 = .ok (.iload_n 3, 1) := by decide +kernel
theorem dL_law_949 : decode cL_law 949 = .ok (.iconst 3, 1) := by decide +kernel
theorem dL_law_950 : decode cL_law 950 = .ok (.iadd, 1) := by decide +kernel
theorem dL_law_951 : decode cL_law 951 = .ok (.iaload, 1) := by decide +kernel
theorem dL_law_952 : decode cL_law 952 = .ok (.invokevirtual 104, 3) := by decide +kernel
theorem dL_law_955 : decode cL_law 955 = .ok (.if_icmp .eq 401, 3) := by decide +kernel
theorem dL_law_958 : decode cL_law 958 = .ok (.iconst 0, 1) := by decide +kernel
theorem dL_law_959 : decode cL_law 959 = .ok (.ireturn, 1) := by decide +kernel
theorem dL_law_960 : decode cL_law 960 = .ok (.aload_n 1, 1) := by decide +kernel
theorem dL_law_961 : decode cL_law 961 = .ok (.aload_n 0, 1) := by decide +kernel
theorem dL_law_962 : decode cL_law 962 = .ok (.iload_n 3, 1) := by decide +kernel
theorem dL_law_963 : decode cL_law 963 = .ok (.iconst 1, 1) := by decide +kernel
theorem dL_law_964 : decode cL_law 964 = .ok (.iadd, 1) := by decide +kernel
theorem dL_law_965 : decode cL_law 965 = .ok (.iaload, 1) := by decide +kernel
theorem dL_law_966 : decode cL_law 966 = .ok (.invokevirtual 105, 3) := by decide +kernel
theorem dL_law_969 : decode cL_law 969 = .ok (.aload_n 2, 1) := by decide +kernel
theorem dL_law_970 : decode cL_law 970 = .ok (.aload_n 0, 1) := by decide +kernel
theorem dL_law_971 : decode cL_law 971 = .ok (.iload_n 3, 1) := by decide +kernel
theorem dL_law_972 : decode cL_law 972 = .ok (.iconst 1, 1) := by decide +kernel
theorem dL_law_973 : decode cL_law 973 = .ok (.iadd, 1) := by decide +kernel
theorem dL_law_974 : decode cL_law 974 = .ok (.iaload, 1) := by decide +kernel
theorem dL_law_975 : decode cL_law 975 = .ok (.invokevirtual 108, 3) := by decide +kernel
theorem dL_law_978 : decode cL_law 978 = .ok (.if_icmp .eq 378, 3) := by decide +kernel
theorem dL_law_981 : decode cL_law 981 = .ok (.iconst 0, 1) := by decide +kernel
theorem dL_law_982 : decode cL_law 982 = .ok (.ireturn, 1) := by decide +kernel
theorem dL_law_983 : decode cL_law 983 = .ok (.aload_n 1, 1) := by decide +kernel
theorem dL_law_984 : decode cL_law 984 = .ok (.aload_n 0, 1) := by decide +kernel
theorem dL_law_985 : decode cL_law 985 = .ok (.iload_n 3, 1) := by decide +kernel
theorem dL_law_986 : decode cL_law 986 = .ok (.iconst 1, 1) := by decide +kernel
theorem dL_law_987 : decode cL_law 987 = .ok (.iadd, 1) := by decide +kernel
theorem dL_law_988 : decode cL_law 988 = .ok (.iaload, 1) := by decide +kernel
theorem dL_law_989 : decode cL_law 989 = .ok (.aload_n 0, 1) := by decide +kernel
theorem dL_law_990 : decode cL_law 990 = .ok (.iload_n 3, 1) := by decide +kernel
theorem dL_law_991 : decode cL_law 991 = .ok (.iconst 2, 1) := by decide +kernel
theorem dL_law_992 : decode cL_law 992 = .ok (.iadd, 1) := by decide +kernel
theorem dL_law_993 : decode cL_law 993 = .ok (.iaload, 1) := by decide +kernel
theorem dL_law_994 : decode cL_law 994 = .ok (.aload_n 0, 1) := by decide +kernel
theorem dL_law_995 : decode cL_law 995 = .ok (.iload_n 3, 1) := by decide +kernel
theorem dL_law_996 : decode cL_law 996 = .ok (.iconst 3, 1) := by decide +kernel
theorem dL_law_997 : decode cL_law 997 = .ok (.iadd, 1) := by decide +kernel
theorem dL_law_998 : decode cL_law 998 = .ok (.iaload, 1) := by decide +kernel
theorem dL_law_999 : decode cL_law 999 = .ok (.invokevirtual 109, 3) := by decide +kernel
theorem dL_law_1002 : decode cL_law 1002 = .ok (.aload_n 2, 1) := by decide +kernel
theorem dL_law_1003 : decode cL_law 1003 = .ok (.aload_n 0, 1) := by decide +kernel
theorem dL_law_1004 : decode cL_law 1004 = .ok (.iload_n 3, 1) := by decide +kernel
theorem dL_law_1005 : decode cL_law 1005 = .ok (.iconst 1, 1) := by decide +kernel
theorem dL_law_1006 : decode cL_law 1006 = .ok (.iadd, 1) := by decide +kernel
theorem dL_law_1007 : decode cL_law 1007 = .ok (.iaload, 1) := by decide +kernel
theorem dL_law_1008 : decode cL_law 1008 = .ok (.aload_n 0, 1) := by decide +kernel
theorem dL_law_1009 : decode cL_law 1009 = .ok (.iload_n 3, 1) := by decide +kernel
theorem dL_law_1010 : decode cL_law 1010 = .ok (.iconst 2, 1) := by decide +kernel
theorem dL_law_1011 : decode cL_law 1011 = .ok (.iadd, 1) := by decide +kernel
theorem dL_law_1012 : decode cL_law 1012 = .ok (.iaload, 1) := by decide +kernel
theorem dL_law_1013 : decode cL_law 1013 = .ok (.aload_n 0, 1) := by decide +kernel
theorem dL_law_1014 : decode cL_law 1014 = .ok (.iload_n 3, 1) := by decide +kernel
theorem dL_law_1015 : decode cL_law 1015 = .ok (.iconst 3, 1) := by decide +kernel
theorem dL_law_1016 : decode cL_law 1016 = .ok (.iadd, 1) := by decide +kernel
theorem dL_law_1017 : decode cL_law 1017 = .ok (.iaload, 1) := by decide +kernel
theorem dL_law_1018 : decode cL_law 1018 = .ok (.invokevirtual 112, 3) := by decide +kernel
theorem dL_law_1021 : decode cL_law 1021 = .ok (.if_icmp .eq 335, 3) := by decide +kernel
theorem dL_law_1024 : decode cL_law 1024 = .ok (.iconst 0, 1) := by decide +kernel
theorem dL_law_1025 : decode cL_law 1025 = .ok (.ireturn, 1) := by decide +kernel
theorem dL_law_1026 : decode cL_law 1026 = .ok (.aload_n 1, 1) := by decide +kernel
theorem dL_law_1027 : decode cL_law 1027 = .ok (.aload_n 0, 1) := by decide +kernel
theorem dL_law_1028 : decode cL_law 1028 = .ok (.iload_n 3, 1) := by decide +kernel
theorem dL_law_1029 : decode cL_law 1029 = .ok (.iconst 1, 1) := by decide +kernel
theorem dL_law_1030 : decode cL_law 1030 = .ok (.iadd, 1) := by decide +kernel
theorem dL_law_1031 : decode cL_law 1031 = .ok (.iaload, 1) := by decide +kernel
theorem dL_law_1032 : decode cL_law 1032 = .ok (.aload_n 0, 1) := by decide +kernel
theorem dL_law_1033 : decode cL_law 1033 = .ok (.iload_n 3, 1) := by decide +kernel
theorem dL_law_1034 : decode cL_law 1034 = .ok (.iconst 2, 1) := by decide +kernel
theorem dL_law_1035 : decode cL_law 1035 = .ok (.iadd, 1) := by decide +kernel
theorem dL_law_1036 : decode cL_law 1036 = .ok (.iaload, 1) := by decide +kernel
theorem dL_law_1037 : decode cL_law 1037 = .ok (.invokevirtual 113, 3) := by decide +kernel
theorem dL_law_1040 : decode cL_law 1040 = .ok (.aload_n 2, 1) := by decide +kernel
theorem dL_law_1041 : decode cL_law 1041 = .ok (.aload_n 0, 1) := by decide +kernel
theorem dL_law_1042 : decode cL_law 1042 = .ok (.iload_n 3, 1) := by decide +kernel
theorem dL_law_1043 : decode cL_law 1043 = .ok (.iconst 1, 1) := by decide +kernel
theorem dL_law_1044 : decode cL_law 1044 = .ok (.iadd, 1) := by decide +kernel
theorem dL_law_1045 : decode cL_law 1045 = .ok (.iaload, 1) := by decide +kernel
theorem dL_law_1046 : decode cL_law 1046 = .ok (.aload_n 0, 1) := by decide +kernel
theorem dL_law_1047 : decode cL_law 1047 = .ok (.iload_n 3, 1) := by decide +kernel
theorem dL_law_1048 : decode cL_law 1048 = .ok (.iconst 2, 1) := by decide +kernel
theorem dL_law_1049 : decode cL_law 1049 = .ok (.iadd, 1) := by decide +kernel
theorem dL_law_1050 : decode cL_law 1050 = .ok (.iaload, 1) := by decide +kernel
theorem dL_law_1051 : decode cL_law 1051 = .ok (.invokevirtual 116, 3) := by decide +kernel
theorem dL_law_1054 : decode cL_law 1054 = .ok (.if_icmp .eq 302, 3) := by decide +kernel
theorem dL_law_1057 : decode cL_law 1057 = .ok (.iconst 0, 1) := by decide +kernel
theorem dL_law_1058 : decode cL_law 1058 = .ok (.ireturn, 1) := by decide +kernel
theorem dL_law_1059 : decode cL_law 1059 = .ok (.aload_n 1, 1) := by decide +kernel
theorem dL_law_1060 : decode cL_law 1060 = .ok (.invokevirtual 117, 3) := by decide +kernel
theorem dL_law_1063 : decode cL_law 1063 = .ok (.aload_n 2, 1) := by decide +kernel
theorem dL_law_1064 : decode cL_law 1064 = .ok (.invokevirtual 120, 3) := by decide +kernel
theorem dL_law_1067 : decode cL_law 1067 = .ok (.if_icmp .eq 289, 3) := by decide +kernel
theorem dL_law_1070 : decode cL_law 1070 = .ok (.iconst 0, 1) := by decide +kernel
theorem dL_law_1071 : decode cL_law 1071 = .ok (.ireturn, 1) := by decide +kernel
theorem dL_law_1072 : decode cL_law 1072 = .ok (.aload_n 1, 1) := by decide +kernel
theorem dL_law_1073 : decode cL_law 1073 = .ok (.invokevirtual 121, 3) := by decide +kernel
theorem dL_law_1076 : decode cL_law 1076 = .ok (.aload_n 2, 1) := by decide +kernel
theorem dL_law_1077 : decode cL_law 1077 = .ok (.invokevirtual 124, 3) := by decide +kernel
theorem dL_law_1080 : decode cL_law 1080 = .ok (.if_icmp .eq 276, 3) := by decide +kernel
theorem dL_law_1083 : decode cL_law 1083 = .ok (.iconst 0, 1) := by decide +kernel
theorem dL_law_1084 : decode cL_law 1084 = .ok (.ireturn, 1) := by decide +kernel
theorem dL_law_1085 : decode cL_law 1085 = .ok (.aload_n 1, 1) := by decide +kernel
theorem dL_law_1086 : decode cL_law 1086 = .ok (.invokevirtual 125, 3) := by decide +kernel
theorem dL_law_1089 : decode cL_law 1089 = .ok (.aload_n 2, 1) := by decide +kernel
theorem dL_law_1090 : decode cL_law 1090 = .ok (.invokevirtual 128, 3) := by decide +kernel
theorem dL_law_1093 : decode cL_law 1093 = .ok (.if_icmp .eq 263, 3) := by decide +kernel
theorem dL_law_1096 : decode cL_law 1096 = .ok (.iconst 0, 1) := by decide +kernel
theorem dL_law_1097 : decode cL_law 1097 = .ok (.ireturn, 1) := by decide +kernel
theorem dL_law_1098 : decode cL_law 1098 = .ok (.aload_n 1, 1) := by decide +kernel
theorem dL_law_1099 : decode cL_law 1099 = .ok (.aload_n 0, 1) := by decide +kernel
theorem dL_law_1100 : decode cL_law 1100 = .ok (.iload_n 3, 1) := by decide +kernel
theorem dL_law_1101 : decode cL_law 1101 = .ok (.iconst 1, 1) := by decide +kernel
theorem dL_law_1102 : decode cL_law 1102 = .ok (.iadd, 1) := by decide +kernel
theorem dL_law_1103 : decode cL_law 1103 = .ok (.iaload, 1) := by decide +kernel
theorem dL_law_1104 : decode cL_law 1104 = .ok (.invokevirtual 129, 3) := by decide +kernel
theorem dL_law_1107 : decode cL_law 1107 = .ok (.aload_n 2, 1) := by decide +kernel
theorem dL_law_1108 : decode cL_law 1108 = .ok (.aload_n 0, 1) := by decide +kernel
theorem dL_law_1109 : decode cL_law 1109 = .ok (.iload_n 3, 1) := by decide +kernel
theorem dL_law_1110 : decode cL_law 1110 = .ok (.iconst 1, 1) := by decide +kernel
theorem dL_law_1111 : decode cL_law 1111 = .ok (.iadd, 1) := by decide +kernel
theorem dL_law_1112 : decode cL_law 1112 = .ok (.iaload, 1) := by decide +kernel
theorem dL_law_1113 : decode cL_law 1113 = .ok (.invokevirtual 132, 3) := by decide +kernel
theorem dL_law_1116 : decode cL_law 1116 = .ok (.if_icmp .eq 240, 3) := by decide +kernel
theorem dL_law_1119 : decode cL_law 1119 = .ok (.iconst 0, 1) := by decide +kernel
theorem dL_law_1120 : decode cL_law 1120 = .ok (.ireturn, 1) := by decide +kernel
theorem dL_law_1121 : decode cL_law 1121 = .ok (.aload_n 1, 1) := by decide +kernel
theorem dL_law_1122 : decode cL_law 1122 = .ok (.aload_n 0, 1) := by decide +kernel
theorem dL_law_1123 : decode cL_law 1123 = .ok (.iload_n 3, 1) := by decide +kernel
theorem dL_law_1124 : decode cL_law 1124 = .ok (.iconst 1, 1) := by decide +kernel
theorem dL_law_1125 : decode cL_law 1125 = .ok (.iadd, 1) := by decide +kernel
theorem dL_law_1126 : decode cL_law 1126 = .ok (.iaload, 1) := by decide +kernel
theorem dL_law_1127 : decode cL_law 1127 = .ok (.aload_n 0, 1) := by decide +kernel
theorem dL_law_1128 : decode cL_law 1128 = .ok (.iload_n 3, 1) := by decide +kernel
theorem dL_law_1129 : decode cL_law 1129 = .ok (.iconst 2, 1) := by decide +kernel
theorem dL_law_1130 : decode cL_law 1130 = .ok (.iadd, 1) := by decide +kernel
theorem dL_law_1131 : decode cL_law 1131 = .ok (.iaload, 1) := by decide +kernel
theorem dL_law_1132 : decode cL_law 1132 = .ok (.aload_n 0, 1) := by decide +kernel
theorem dL_law_1133 : decode cL_law 1133 = .ok (.iload_n 3, 1) := by decide +kernel
theorem dL_law_1134 : decode cL_law 1134 = .ok (.iconst 3, 1) := by decide +kernel
theorem dL_law_1135 : decode cL_law 1135 = .ok (.iadd, 1) := by decide +kernel
theorem dL_law_1136 : decode cL_law 1136 = .ok (.iaload, 1) := by decide +kernel
theorem dL_law_1137 : decode cL_law 1137 = .ok (.invokevirtual 133, 3) := by decide +kernel
theorem dL_law_1140 : decode cL_law 1140 = .ok (.aload_n 2, 1) := by decide +kernel
theorem dL_law_1141 : decode cL_law 1141 = .ok (.aload_n 0, 1) := by decide +kernel
theorem dL_law_1142 : decode cL_law 1142 = .ok (.iload_n 3, 1) := by decide +kernel
theorem dL_law_1143 : decode cL_law 1143 = .ok (.iconst 1, 1) := by decide +kernel
theorem dL_law_1144 : decode cL_law 1144 = .ok (.iadd, 1) := by decide +kernel
theorem dL_law_1145 : decode cL_law 1145 = .ok (.iaload, 1) := by decide +kernel
theorem dL_law_1146 : decode cL_law 1146 = .ok (.aload_n 0, 1) := by decide +kernel
theorem dL_law_1147 : decode cL_law 1147 = .ok (.iload_n 3, 1) := by decide +kernel
theorem dL_law_1148 : decode cL_law 1148 = .ok (.iconst 2, 1) := by decide +kernel
theorem dL_law_1149 : decode cL_law 1149 = .ok (.iadd, 1) := by decide +kernel
theorem dL_law_1150 : decode cL_law 1150 = .ok (.iaload, 1) := by decide +kernel
theorem dL_law_1151 : decode cL_law 1151 = .ok (.aload_n 0, 1) := by decide +kernel
theorem dL_law_1152 : decode cL_law 1152 = .ok (.iload_n 3, 1) := by decide +kernel
theorem dL_law_1153 : decode cL_law 1153 = .ok (.iconst 3, 1) := by decide +kernel
theorem dL_law_1154 : decode cL_law 1154 = .ok (.iadd, 1) := by decide +kernel
theorem dL_law_1155 : decode cL_law 1155 = .ok (.iaload, 1) := by decide +kernel
theorem dL_law_1156 : decode cL_law 1156 = .ok (.invokevirtual 136, 3) := by decide +kernel
theorem dL_law_1159 : decode cL_law 1159 = .ok (.if_icmp .eq 197, 3) := by decide +kernel
theorem dL_law_1162 : decode cL_law 1162 = .ok (.iconst 0, 1) := by decide +kernel
theorem dL_law_1163 : decode cL_law 1163 = .ok (.ireturn, 1) := by decide +kernel
theorem dL_law_1164 : decode cL_law 1164 = .ok (.aload_n 1, 1) := by decide +kernel
theorem dL_law_1165 : decode cL_law 1165 = .ok (.aload_n 0, 1) := by decide +kernel
theorem dL_law_1166 : decode cL_law 1166 = .ok (.iload_n 3, 1) := by decide +kernel
theorem dL_law_1167 : decode cL_law 1167 = .ok (.iconst 1, 1) := by decide +kernel
theorem dL_law_1168 : decode cL_law 1168 = .ok (.iadd, 1) := by decide +kernel
theorem dL_law_1169 : decode cL_law 1169 = .ok (.iaload, 1) := by decide +kernel
theorem dL_law_1170 : decode cL_law 1170 = .ok (.aload_n 0, 1) := by decide +kernel
theorem dL_law_1171 : decode cL_law 1171 = .ok (.iload_n 3, 1) := by decide +kernel
theorem dL_law_1172 : decode cL_law 1172 = .ok (.iconst 2, 1) := by decide +kernel
theorem dL_law_1173 : decode cL_law 1173 = .ok (.iadd, 1) := by decide +kernel
theorem dL_law_1174 : decode cL_law 1174 = .ok (.iaload, 1) := by decide +kernel
theorem dL_law_1175 : decode cL_law 1175 = .ok (.aload_n 0, 1) := by decide +kernel
theorem dL_law_1176 : decode cL_law 1176 = .ok (.iload_n 3, 1) := by decide +kernel
theorem dL_law_1177 : decode cL_law 1177 = .ok (.iconst 3, 1) := by decide +kernel
theorem dL_law_1178 : decode cL_law 1178 = .ok (.iadd, 1) := by decide +kernel
theorem dL_law_1179 : decode cL_law 1179 = .ok (.iaload, 1) := by decide +kernel
theorem dL_law_1180 : decode cL_law 1180 = .ok (.invokevirtual 137, 3) := by decide +kernel
theorem dL_law_1183 : decode cL_law 1183 = .ok (.aload_n 2, 1) := by decide +kernel
theorem dL_law_1184 : decode cL_law 1184 = .ok (.aload_n 0, 1) := by decide +kernel
theorem dL_law_1185 : decode cL_law 1185 = .ok (.iload_n 3, 1) := by decide +kernel
theorem dL_law_1186 : decode cL_law 1186 = .ok (.iconst 1, 1) := by decide +kernel
theorem dL_law_1187 : decode cL_law 1187 = .ok (.iadd, 1) := by decide +kernel
theorem dL_law_1188 : decode cL_law 1188 = .ok (.iaload, 1) := by decide +kernel
theorem dL_law_1189 : decode cL_law 1189 = .ok (.aload_n 0, 1) := by decide +kernel
theorem dL_law_1190 : decode cL_law 1190 = .ok (.iload_n 3, 1) := by decide +kernel
theorem dL_law_1191 : decode cL_law 1191 = .ok (.iconst 2, 1) := by decide +kernel
theorem dL_law_1192 : decode cL_law 1192 = .ok (.iadd, 1) := by decide +kernel
theorem dL_law_1193 : decode cL_law 1193 = .ok (.iaload, 1) := by decide +kernel
theorem dL_law_1194 : decode cL_law 1194 = .ok (.aload_n 0, 1) := by decide +kernel
theorem dL_law_1195 : decode cL_law 1195 = .ok (.iload_n 3, 1) := by decide +kernel
theorem dL_law_1196 : decode cL_law 1196 = .ok (.iconst 3, 1) := by decide +kernel
theorem dL_law_1197 : decode cL_law 1197 = .ok (.iadd, 1) := by decide +kernel
theorem dL_law_1198 : decode cL_law 1198 = .ok (.iaload, 1) := by decide +kernel
theorem dL_law_1199 : decode cL_law 1199 = .ok (.invokevirtual 140, 3) := by decide +kernel
theorem dL_law_1202 : decode cL_law 1202 = .ok (.if_icmp .eq 154, 3) := by decide +kernel
theorem dL_law_1205 : decode cL_law 1205 = .ok (.iconst 0, 1) := by decide +kernel
theorem dL_law_1206 : decode cL_law 1206 = .ok (.ireturn, 1) := by decide +kernel
theorem dL_law_1207 : decode cL_law 1207 = .ok (.aload_n 1, 1) := by decide +kernel
theorem dL_law_1208 : decode cL_law 1208 = .ok (.aload_n 0, 1) := by decide +kernel
theorem dL_law_1209 : decode cL_law 1209 = .ok (.iload_n 3, 1) := by decide +kernel
theorem dL_law_1210 : decode cL_law 1210 = .ok (.iconst 1, 1) := by decide +kernel
theorem dL_law_1211 : decode cL_law 1211 = .ok (.iadd, 1) := by decide +kernel
theorem dL_law_1212 : decode cL_law 1212 = .ok (.iaload, 1) := by decide +kernel
theorem dL_law_1213 : decode cL_law 1213 = .ok (.aload_n 0, 1) := by decide +kernel
theorem dL_law_1214 : decode cL_law 1214 = .ok (.iload_n 3, 1) := by decide +kernel
theorem dL_law_1215 : decode cL_law 1215 = .ok (.iconst 2, 1) := by decide +kernel
theorem dL_law_1216 : decode cL_law 1216 = .ok (.iadd, 1) := by decide +kernel
theorem dL_law_1217 : decode cL_law 1217 = .ok (.iaload, 1) := by decide +kernel
theorem dL_law_1218 : decode cL_law 1218 = .ok (.aload_n 0, 1) := by decide +kernel
theorem dL_law_1219 : decode cL_law 1219 = .ok (.iload_n 3, 1) := by decide +kernel
theorem dL_law_1220 : decode cL_law 1220 = .ok (.iconst 3, 1) := by decide +kernel
theorem dL_law_1221 : decode cL_law 1221 = .ok (.iadd, 1) := by decide +kernel
theorem dL_law_1222 : decode cL_law 1222 = .ok (.iaload, 1) := by decide +kernel
theorem dL_law_1223 : decode cL_law 1223 = .ok (.aload_n 0, 1) := by decide +kernel
theorem dL_law_1224 : decode cL_law 1224 = .ok (.iload_n 3, 1) := by decide +kernel
theorem dL_law_1225 : decode cL_law 1225 = .ok (.iconst 4, 1) := by decide +kernel
theorem dL_law_1226 : decode cL_law 1226 = .ok (.iadd, 1) := by decide +kernel
theorem dL_law_1227 : decode cL_law 1227 = .ok (.iaload, 1) := by decide +kernel
theorem dL_law_1228 : decode cL_law 1228 = .ok (.aload_n 0, 1) := by decide +kernel
theorem dL_law_1229 : decode cL_law 1229 = .ok (.iload_n 3, 1) := by decide +kernel
theorem dL_law_1230 : decode cL_law 1230 = .ok (.iconst 5, 1) := by decide +kernel
theorem dL_law_1231 : decode cL_law 1231 = .ok (.iadd, 1) := by decide +kernel
theorem dL_law_1232 : decode cL_law 1232 = .ok (.iaload, 1) := by decide +kernel
theorem dL_law_1233 : decode cL_law 1233 = .ok (.invokevirtual 141, 3) := by decide +kernel
theorem dL_law_1236 : decode cL_law 1236 = .ok (.aload_n 2, 1) := by decide +kernel
theorem dL_law_1237 : decode cL_law 1237 = .ok (.aload_n 0, 1) := by decide +kernel
theorem dL_law_1238 : decode cL_law 1238 = .ok (.iload_n 3, 1) := by decide +kernel
theorem dL_law_1239 : decode cL_law 1239 = .ok (.iconst 1, 1) := by decide +kernel
theorem dL_law_1240 : decode cL_law 1240 = .ok (.iadd, 1) := by decide +kernel
theorem dL_law_1241 : decode cL_law 1241 = .ok (.iaload, 1) := by decide +kernel
theorem dL_law_1242 : decode cL_law 1242 = .ok (.aload_n 0, 1) := by decide +kernel
theorem dL_law_1243 : decode cL_law 1243 = .ok (.iload_n 3, 1) := by decide +kernel
theorem dL_law_1244 : decode cL_law 1244 = .ok (.iconst 2, 1) := by decide +kernel
theorem dL_law_1245 : decode cL_law 1245 = .ok (.iadd, 1) := by decide +kernel
theorem dL_law_1246 : decode cL_law 1246 = .ok (.iaload, 1) := by decide +kernel
theorem dL_law_1247 : decode cL_law 1247 = .ok (.aload_n 0, 1) := by decide +kernel
theorem dL_law_1248 : decode cL_law 1248 = .ok (.iload_n 3, 1) := by decide +kernel
theorem dL_law_1249 : decode cL_law 1249 = .ok (.iconst 3, 1) := by decide +kernel
theorem dL_law_1250 : decode cL_law 1250 = .ok (.iadd, 1) := by decide +kernel
theorem dL_law_1251 : decode cL_law 1251 = .ok (.iaload, 1) := by decide +kernel
theorem dL_law_1252 : decode cL_law 1252 = .ok (.aload_n 0, 1) := by decide +kernel
theorem dL_law_1253 : decode cL_law 1253 = .ok (.iload_n 3, 1) := by decide +kernel
theorem dL_law_1254 : decode cL_law 1254 = .ok (.iconst 4, 1) := by decide +kernel
theorem dL_law_1255 : decode cL_law 1255 = .ok (.iadd, 1) := by decide +kernel
theorem dL_law_1256 : decode cL_law 1256 = .ok (.iaload, 1) := by decide +kernel
theorem dL_law_1257 : decode cL_law 1257 = .ok (.aload_n 0, 1) := by decide +kernel
theorem dL_law_1258 : decode cL_law 1258 = .ok (.iload_n 3, 1) := by decide +kernel
theorem dL_law_1259 : decode cL_law 1259 = .ok (.iconst 5, 1) := by decide +kernel
theorem dL_law_1260 : decode cL_law 1260 = .ok (.iadd, 1) := by decide +kernel
theorem dL_law_1261 : decode cL_law 1261 = .ok (.iaload, 1) := by decide +kernel
theorem dL_law_1262 : decode cL_law 1262 = .ok (.invokevirtual 144, 3) := by decide +kernel
theorem dL_law_1265 : decode cL_law 1265 = .ok (.if_icmp .eq 91, 3) := by decide +kernel
theorem dL_law_1268 : decode cL_law 1268 = .ok (.iconst 0, 1) := by decide +kernel
theorem dL_law_1269 : decode cL_law 1269 = .ok (.ireturn, 1) := by decide +kernel
theorem dL_law_1270 : decode cL_law 1270 = .ok (.aload_n 1, 1) := by decide +kernel
theorem dL_law_1271 : decode cL_law 1271 = .ok (.aload_n 0, 1) := by decide +kernel
theorem dL_law_1272 : decode cL_law 1272 = .ok (.iload_n 3, 1) := by decide +kernel
theorem dL_law_1273 : decode cL_law 1273 = .ok (.iconst 1, 1) := by decide +kernel
theorem dL_law_1274 : decode cL_law 1274 = .ok (.iadd, 1) := by decide +kernel
theorem dL_law_1275 : decode cL_law 1275 = .ok (.iaload, 1) := by decide +kernel
theorem dL_law_1276 : decode cL_law 1276 = .ok (.aload_n 0, 1) := by decide +kernel
theorem dL_law_1277 : decode cL_law 1277 = .ok (.iload_n 3, 1) := by decide +kernel
theorem dL_law_1278 : decode cL_law 1278 = .ok (.iconst 2, 1) := by decide +kernel
theorem dL_law_1279 : decode cL_law 1279 = .ok (.iadd, 1) := by decide +kernel
theorem dL_law_1280 : decode cL_law 1280 = .ok (.iaload, 1) := by decide +kernel
theorem dL_law_1281 : decode cL_law 1281 = .ok (.aload_n 0, 1) := by decide +kernel
theorem dL_law_1282 : decode cL_law 1282 = .ok (.iload_n 3, 1) := by decide +kernel
theorem dL_law_1283 : decode cL_law 1283 = .ok (.iconst 3, 1) := by decide +kernel
theorem dL_law_1284 : decode cL_law 1284 = .ok (.iadd, 1) := by decide +kernel
theorem dL_law_1285 : decode cL_law 1285 = .ok (.iaload, 1) := by decide +kernel
theorem dL_law_1286 : decode cL_law 1286 = .ok (.aload_n 0, 1) := by decide +kernel
theorem dL_law_1287 : decode cL_law 1287 = .ok (.iload_n 3, 1) := by decide +kernel
theorem dL_law_1288 : decode cL_law 1288 = .ok (.iconst 4, 1) := by decide +kernel
theorem dL_law_1289 : decode cL_law 1289 = .ok (.iadd, 1) := by decide +kernel
theorem dL_law_1290 : decode cL_law 1290 = .ok (.iaload, 1) := by decide +kernel
theorem dL_law_1291 : decode cL_law 1291 = .ok (.invokevirtual 145, 3) := by decide +kernel
theorem dL_law_1294 : decode cL_law 1294 = .ok (.aload_n 2, 1) := by decide +kernel
theorem dL_law_1295 : decode cL_law 1295 = .ok (.aload_n 0, 1) := by decide +kernel
theorem dL_law_1296 : decode cL_law 1296 = .ok (.iload_n 3, 1) := by decide +kernel
theorem dL_law_1297 : decode cL_law 1297 = .ok (.iconst 1, 1) := by decide +kernel
theorem dL_law_1298 : decode cL_law 1298 = .ok (.iadd, 1) := by decide +kernel
theorem dL_law_1299 : decode cL_law 1299 = .ok (.iaload, 1) := by decide +kernel
theorem dL_law_1300 : decode cL_law 1300 = .ok (.aload_n 0, 1) := by decide +kernel
theorem dL_law_1301 : decode cL_law 1301 = .ok (.iload_n 3, 1) := by decide +kernel
theorem dL_law_1302 : decode cL_law 1302 = .ok (.iconst 2, 1) := by decide +kernel
theorem dL_law_1303 : decode cL_law 1303 = .ok (.iadd, 1) := by decide +kernel
theorem dL_law_1304 : decode cL_law 1304 = .ok (.iaload, 1) := by decide +kernel
theorem dL_law_1305 : decode cL_law 1305 = .ok (.aload_n 0, 1) := by decide +kernel
theorem dL_law_1306 : decode cL_law 1306 = .ok (.iload_n 3, 1) := by decide +kernel
theorem dL_law_1307 : decode cL_law 1307 = .ok (.iconst 3, 1) := by decide +kernel
theorem dL_law_1308 : decode cL_law 1308 = .ok (.iadd, 1) := by decide +kernel
theorem dL_law_1309 : decode cL_law 1309 = .ok (.iaload, 1) := by decide +kernel
theorem dL_law_1310 : decode cL_law 1310 = .ok (.aload_n 0, 1) := by decide +kernel
theorem dL_law_1311 : decode cL_law 1311 = .ok (.iload_n 3, 1) := by decide +kernel
theorem dL_law_1312 : decode cL_law 1312 = .ok (.iconst 4, 1) := by decide +kernel
theorem dL_law_1313 : decode cL_law 1313 = .ok (.iadd, 1) := by decide +kernel
theorem dL_law_1314 : decode cL_law 1314 = .ok (.iaload, 1) := by decide +kernel
theorem dL_law_1315 : decode cL_law 1315 = .ok (.invokevirtual 148, 3) := by decide +kernel
theorem dL_law_1318 : decode cL_law 1318 = .ok (.if_icmp .eq 38, 3) := by decide +kernel
theorem dL_law_1321 : decode cL_law 1321 = .ok (.iconst 0, 1) := by decide +kernel
theorem dL_law_1322 : decode cL_law 1322 = .ok (.ireturn, 1) := by decide +kernel
theorem dL_law_1323 : decode cL_law 1323 = .ok (.aload_n 1, 1) := by decide +kernel
theorem dL_law_1324 : decode cL_law 1324 = .ok (.aload_n 0, 1) := by decide +kernel
theorem dL_law_1325 : decode cL_law 1325 = .ok (.iload_n 3, 1) := by decide +kernel
theorem dL_law_1326 : decode cL_law 1326 = .ok (.iconst 1, 1) := by decide +kernel
theorem dL_law_1327 : decode cL_law 1327 = .ok (.iadd, 1) := by decide +kernel
theorem dL_law_1328 : decode cL_law 1328 = .ok (.iaload, 1) := by decide +kernel
theorem dL_law_1329 : decode cL_law 1329 = .ok (.aload_n 0, 1) := by decide +kernel
theorem dL_law_1330 : decode cL_law 1330 = .ok (.iload_n 3, 1) := by decide +kernel
theorem dL_law_1331 : decode cL_law 1331 = .ok (.iconst 2, 1) := by decide +kernel
theorem dL_law_1332 : decode cL_law 1332 = .ok (.iadd, 1) := by decide +kernel
theorem dL_law_1333 : decode cL_law 1333 = .ok (.iaload, 1) := by decide +kernel
theorem dL_law_1334 : decode cL_law 1334 = .ok (.invokevirtual 149, 3) := by decide +kernel
theorem dL_law_1337 : decode cL_law 1337 = .ok (.aload_n 2, 1) := by decide +kernel
theorem dL_law_1338 : decode cL_law 1338 = .ok (.aload_n 0, 1) := by decide +kernel
theorem dL_law_1339 : decode cL_law 1339 = .ok (.iload_n 3, 1) := by decide +kernel
theorem dL_law_1340 : decode cL_law 1340 = .ok (.iconst 1, 1) := by decide +kernel
theorem dL_law_1341 : decode cL_law 1341 = .ok (.iadd, 1) := by decide +kernel
theorem dL_law_1342 : decode cL_law 1342 = .ok (.iaload, 1) := by decide +kernel
theorem dL_law_1343 : decode cL_law 1343 = .ok (.aload_n 0, 1) := by decide +kernel
theorem dL_law_1344 : decode cL_law 1344 = .ok (.iload_n 3, 1) := by decide +kernel
theorem dL_law_1345 : decode cL_law 1345 = .ok (.iconst 2, 1) := by decide +kernel
theorem dL_law_1346 : decode cL_law 1346 = .ok (.iadd, 1) := by decide +kernel
theorem dL_law_1347 : decode cL_law 1347 = .ok (.iaload, 1) := by decide +kernel
theorem dL_law_1348 : decode cL_law 1348 = .ok (.invokevirtual 152, 3) := by decide +kernel
theorem dL_law_1351 : decode cL_law 1351 = .ok (.if_icmp .eq 5, 3) := by decide +kernel
theorem dL_law_1354 : decode cL_law 1354 = .ok (.iconst 0, 1) := by decide +kernel
theorem dL_law_1355 : decode cL_law 1355 = .ok (.ireturn, 1) := by decide +kernel
theorem dL_law_1356 : decode cL_law 1356 = .ok (.iinc 3 6, 3) := by decide +kernel
theorem dL_law_1359 : decode cL_law 1359 = .ok (.goto (-1341), 3) := by decide +kernel
theorem dL_law_1362 : decode cL_law 1362 = .ok (.iconst 1, 1) := by decide +kernel
theorem dL_law_1363 : decode cL_law 1363 = .ok (.ireturn, 1) := by decide +kernel
end
section
theorem zz_last : True := trivial
end
