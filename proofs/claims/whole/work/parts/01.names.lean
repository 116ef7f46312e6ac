-- ===== PART A: goes FIRST, ahead of the names: the tables' words, and 'selects' of the private methods out of them =====
/-- a private method of a class that the tables say can be made, by its rows of tables_1 -/
def lw_okq (q : MethodName × Nat) : Prop := (q.1.cls ≠ "java/lang/invoke/MethodHandle" ∧ q.1.cls ≠ "java/lang/invoke/VarHandle") ∧ Cond.instantiable q.1.cls q.2 ∈ tables_1 ∧ Cond.privateMethod q.1 ∈ tables_1 ∧ Cond.instanceMethod q.1 ∈ tables_1
theorem lw_p0 : lw_okq (⟨"GlassLog$Mixer", "mix", "(I[II)V"⟩, 2) := ⟨⟨by decide +kernel, by decide +kernel⟩, List.mem_of_getElem? (i := 26) (by decide +kernel), List.mem_of_getElem? (i := 463) (by decide +kernel), List.mem_of_getElem? (i := 464) (by decide +kernel)⟩
theorem lw_p1 : lw_okq (⟨"GlassLog$Mixer", "turn", "()V"⟩, 2) := ⟨⟨by decide +kernel, by decide +kernel⟩, List.mem_of_getElem? (i := 26) (by decide +kernel), List.mem_of_getElem? (i := 468) (by decide +kernel), List.mem_of_getElem? (i := 469) (by decide +kernel)⟩
theorem lw_p2 : lw_okq (⟨"GlassLog$Keys", "isAhead", "(II)Z"⟩, 4) := ⟨⟨by decide +kernel, by decide +kernel⟩, List.mem_of_getElem? (i := 340) (by decide +kernel), List.mem_of_getElem? (i := 475) (by decide +kernel), List.mem_of_getElem? (i := 476) (by decide +kernel)⟩
theorem lw_p3 : lw_okq (⟨"GlassLog$Log", "joinFullBlocks", "(LGlassLog$Mixer;)V"⟩, 10) := ⟨⟨by decide +kernel, by decide +kernel⟩, List.mem_of_getElem? (i := 334) (by decide +kernel), List.mem_of_getElem? (i := 484) (by decide +kernel), List.mem_of_getElem? (i := 485) (by decide +kernel)⟩
theorem lw_p4 : lw_okq (⟨"GlassLog$Marks", "isTold", "(I)Z"⟩, 4) := ⟨⟨by decide +kernel, by decide +kernel⟩, List.mem_of_getElem? (i := 364) (by decide +kernel), List.mem_of_getElem? (i := 531) (by decide +kernel), List.mem_of_getElem? (i := 532) (by decide +kernel)⟩
theorem lw_p5 : lw_okq (⟨"GlassLog$MapAt", "heed", "(LGlassLog$Log;I)V"⟩, 6) := ⟨⟨by decide +kernel, by decide +kernel⟩, List.mem_of_getElem? (i := 40) (by decide +kernel), List.mem_of_getElem? (i := 573) (by decide +kernel), List.mem_of_getElem? (i := 574) (by decide +kernel)⟩
theorem lw_p6 : lw_okq (⟨"GlassLog$Tower", "areOne", "(II)Z"⟩, 5) := ⟨⟨by decide +kernel, by decide +kernel⟩, List.mem_of_getElem? (i := 72) (by decide +kernel), List.mem_of_getElem? (i := 621) (by decide +kernel), List.mem_of_getElem? (i := 622) (by decide +kernel)⟩
theorem lw_p7 : lw_okq (⟨"GlassLog$MapAt", "partingOf", "(LGlassLog$Keys;III)I"⟩, 6) := ⟨⟨by decide +kernel, by decide +kernel⟩, List.mem_of_getElem? (i := 40) (by decide +kernel), List.mem_of_getElem? (i := 655) (by decide +kernel), List.mem_of_getElem? (i := 656) (by decide +kernel)⟩
theorem lw_p8 : lw_okq (⟨"GlassLog$Log", "showBlocks", "(LGlassLog$Proof;II)V"⟩, 10) := ⟨⟨by decide +kernel, by decide +kernel⟩, List.mem_of_getElem? (i := 334) (by decide +kernel), List.mem_of_getElem? (i := 701) (by decide +kernel), List.mem_of_getElem? (i := 702) (by decide +kernel)⟩
theorem lw_p9 : lw_okq (⟨"GlassLog$Reckoner", "hasEntries", "(LGlassLog$Proof;LGlassLog$Head;)Z"⟩, 5) := ⟨⟨by decide +kernel, by decide +kernel⟩, List.mem_of_getElem? (i := 66) (by decide +kernel), List.mem_of_getElem? (i := 797) (by decide +kernel), List.mem_of_getElem? (i := 798) (by decide +kernel)⟩
theorem lw_p10 : lw_okq (⟨"GlassLog$Reckoner", "climb", "(LGlassLog$Proof;III)I"⟩, 5) := ⟨⟨by decide +kernel, by decide +kernel⟩, List.mem_of_getElem? (i := 66) (by decide +kernel), List.mem_of_getElem? (i := 801) (by decide +kernel), List.mem_of_getElem? (i := 802) (by decide +kernel)⟩
theorem lw_p11 : lw_okq (⟨"GlassLog$Reckoner", "leadsTo", "(LGlassLog$Proof;ILGlassLog$Head;)Z"⟩, 5) := ⟨⟨by decide +kernel, by decide +kernel⟩, List.mem_of_getElem? (i := 66) (by decide +kernel), List.mem_of_getElem? (i := 811) (by decide +kernel), List.mem_of_getElem? (i := 812) (by decide +kernel)⟩
theorem lw_p12 : lw_okq (⟨"GlassLog", "agree", "(LGlassLog$Head;LGlassLog$Head;)Z"⟩, 7) := ⟨⟨by decide +kernel, by decide +kernel⟩, List.mem_of_getElem? (i := 18) (by decide +kernel), List.mem_of_getElem? (i := 833) (by decide +kernel), List.mem_of_getElem? (i := 834) (by decide +kernel)⟩
theorem lw_p13 : lw_okq (⟨"GlassLog$Watcher", "note", "(I)V"⟩, 7) := ⟨⟨by decide +kernel, by decide +kernel⟩, List.mem_of_getElem? (i := 236) (by decide +kernel), List.mem_of_getElem? (i := 896) (by decide +kernel), List.mem_of_getElem? (i := 897) (by decide +kernel)⟩
theorem lw_p14 : lw_okq (⟨"GlassLogModel", "isLog", "(I)Z"⟩, 66) := ⟨⟨by decide +kernel, by decide +kernel⟩, List.mem_of_getElem? (i := 954) (by decide +kernel), List.mem_of_getElem? (i := 1168) (by decide +kernel), List.mem_of_getElem? (i := 1169) (by decide +kernel)⟩
theorem lw_p15 : lw_okq (⟨"GlassLogModel", "many", "(I)I"⟩, 66) := ⟨⟨by decide +kernel, by decide +kernel⟩, List.mem_of_getElem? (i := 954) (by decide +kernel), List.mem_of_getElem? (i := 1172) (by decide +kernel), List.mem_of_getElem? (i := 1173) (by decide +kernel)⟩
def lw_privs_1 : List (MethodName × Nat) := [(⟨"GlassLog$Mixer", "mix", "(I[II)V"⟩, 2), (⟨"GlassLog$Mixer", "turn", "()V"⟩, 2), (⟨"GlassLog$Keys", "isAhead", "(II)Z"⟩, 4), (⟨"GlassLog$Log", "joinFullBlocks", "(LGlassLog$Mixer;)V"⟩, 10), (⟨"GlassLog$Marks", "isTold", "(I)Z"⟩, 4), (⟨"GlassLog$MapAt", "heed", "(LGlassLog$Log;I)V"⟩, 6), (⟨"GlassLog$Tower", "areOne", "(II)Z"⟩, 5), (⟨"GlassLog$MapAt", "partingOf", "(LGlassLog$Keys;III)I"⟩, 6), (⟨"GlassLog$Log", "showBlocks", "(LGlassLog$Proof;II)V"⟩, 10), (⟨"GlassLog$Reckoner", "hasEntries", "(LGlassLog$Proof;LGlassLog$Head;)Z"⟩, 5), (⟨"GlassLog$Reckoner", "climb", "(LGlassLog$Proof;III)I"⟩, 5), (⟨"GlassLog$Reckoner", "leadsTo", "(LGlassLog$Proof;ILGlassLog$Head;)Z"⟩, 5), (⟨"GlassLog", "agree", "(LGlassLog$Head;LGlassLog$Head;)Z"⟩, 7), (⟨"GlassLog$Watcher", "note", "(I)V"⟩, 7), (⟨"GlassLogModel", "isLog", "(I)Z"⟩, 66), (⟨"GlassLogModel", "many", "(I)I"⟩, 66)]
theorem lw_r1 : ∀ q ∈ lw_privs_1, lw_okq q := List.forall_mem_cons.mpr ⟨lw_p0, List.forall_mem_cons.mpr ⟨lw_p1, List.forall_mem_cons.mpr ⟨lw_p2, List.forall_mem_cons.mpr ⟨lw_p3, List.forall_mem_cons.mpr ⟨lw_p4, List.forall_mem_cons.mpr ⟨lw_p5, List.forall_mem_cons.mpr ⟨lw_p6, List.forall_mem_cons.mpr ⟨lw_p7, List.forall_mem_cons.mpr ⟨lw_p8, List.forall_mem_cons.mpr ⟨lw_p9, List.forall_mem_cons.mpr ⟨lw_p10, List.forall_mem_cons.mpr ⟨lw_p11, List.forall_mem_cons.mpr ⟨lw_p12, List.forall_mem_cons.mpr ⟨lw_p13, List.forall_mem_cons.mpr ⟨lw_p14, List.forall_mem_cons.mpr ⟨lw_p15, fun _ h => absurd h List.not_mem_nil⟩⟩⟩⟩⟩⟩⟩⟩⟩⟩⟩⟩⟩⟩⟩⟩
theorem lw_p16 : lw_okq (⟨"GlassLogModel", "isCount", "(II)Z"⟩, 66) := ⟨⟨by decide +kernel, by decide +kernel⟩, List.mem_of_getElem? (i := 954) (by decide +kernel), List.mem_of_getElem? (i := 1180) (by decide +kernel), List.mem_of_getElem? (i := 1181) (by decide +kernel)⟩
theorem lw_p17 : lw_okq (⟨"GlassLogModel", "say", "(IIZ)Z"⟩, 66) := ⟨⟨by decide +kernel, by decide +kernel⟩, List.mem_of_getElem? (i := 954) (by decide +kernel), List.mem_of_getElem? (i := 1188) (by decide +kernel), List.mem_of_getElem? (i := 1189) (by decide +kernel)⟩
theorem lw_p18 : lw_okq (⟨"GlassLogModel", "word", "(II)I"⟩, 66) := ⟨⟨by decide +kernel, by decide +kernel⟩, List.mem_of_getElem? (i := 954) (by decide +kernel), List.mem_of_getElem? (i := 1192) (by decide +kernel), List.mem_of_getElem? (i := 1193) (by decide +kernel)⟩
theorem lw_p19 : lw_okq (⟨"GlassLogModel", "map", "(II)V"⟩, 66) := ⟨⟨by decide +kernel, by decide +kernel⟩, List.mem_of_getElem? (i := 954) (by decide +kernel), List.mem_of_getElem? (i := 1212) (by decide +kernel), List.mem_of_getElem? (i := 1213) (by decide +kernel)⟩
theorem lw_p20 : lw_okq (⟨"GlassLogModel", "counts", "(III)Z"⟩, 66) := ⟨⟨by decide +kernel, by decide +kernel⟩, List.mem_of_getElem? (i := 954) (by decide +kernel), List.mem_of_getElem? (i := 1216) (by decide +kernel), List.mem_of_getElem? (i := 1217) (by decide +kernel)⟩
theorem lw_p21 : lw_okq (⟨"GlassLogModel", "find", "(I)I"⟩, 66) := ⟨⟨by decide +kernel, by decide +kernel⟩, List.mem_of_getElem? (i := 954) (by decide +kernel), List.mem_of_getElem? (i := 1220) (by decide +kernel), List.mem_of_getElem? (i := 1221) (by decide +kernel)⟩
theorem lw_p22 : lw_okq (⟨"GlassLogModel", "wayOf", "(I)V"⟩, 66) := ⟨⟨by decide +kernel, by decide +kernel⟩, List.mem_of_getElem? (i := 954) (by decide +kernel), List.mem_of_getElem? (i := 1224) (by decide +kernel), List.mem_of_getElem? (i := 1225) (by decide +kernel)⟩
theorem lw_p23 : lw_okq (⟨"GlassLogModel", "mix", "(I)V"⟩, 66) := ⟨⟨by decide +kernel, by decide +kernel⟩, List.mem_of_getElem? (i := 954) (by decide +kernel), List.mem_of_getElem? (i := 1228) (by decide +kernel), List.mem_of_getElem? (i := 1229) (by decide +kernel)⟩
theorem lw_p24 : lw_okq (⟨"GlassLogModel", "turn", "()V"⟩, 66) := ⟨⟨by decide +kernel, by decide +kernel⟩, List.mem_of_getElem? (i := 954) (by decide +kernel), List.mem_of_getElem? (i := 1233) (by decide +kernel), List.mem_of_getElem? (i := 1234) (by decide +kernel)⟩
theorem lw_p25 : lw_okq (⟨"GlassLogModel", "toRow", "([II)V"⟩, 66) := ⟨⟨by decide +kernel, by decide +kernel⟩, List.mem_of_getElem? (i := 954) (by decide +kernel), List.mem_of_getElem? (i := 1237) (by decide +kernel), List.mem_of_getElem? (i := 1238) (by decide +kernel)⟩
theorem lw_p26 : lw_okq (⟨"GlassLogModel", "head", "(II[II)V"⟩, 66) := ⟨⟨by decide +kernel, by decide +kernel⟩, List.mem_of_getElem? (i := 954) (by decide +kernel), List.mem_of_getElem? (i := 1249) (by decide +kernel), List.mem_of_getElem? (i := 1250) (by decide +kernel)⟩
theorem lw_p27 : lw_okq (⟨"GlassLogModel", "layLog", "(III)V"⟩, 66) := ⟨⟨by decide +kernel, by decide +kernel⟩, List.mem_of_getElem? (i := 954) (by decide +kernel), List.mem_of_getElem? (i := 1253) (by decide +kernel), List.mem_of_getElem? (i := 1254) (by decide +kernel)⟩
theorem lw_p28 : lw_okq (⟨"GlassLogModel", "blockSum", "(IIII[II)V"⟩, 66) := ⟨⟨by decide +kernel, by decide +kernel⟩, List.mem_of_getElem? (i := 954) (by decide +kernel), List.mem_of_getElem? (i := 1260) (by decide +kernel), List.mem_of_getElem? (i := 1261) (by decide +kernel)⟩
theorem lw_p29 : lw_okq (⟨"GlassLogModel", "entrySum", "(IJ[II)V"⟩, 66) := ⟨⟨by decide +kernel, by decide +kernel⟩, List.mem_of_getElem? (i := 954) (by decide +kernel), List.mem_of_getElem? (i := 1264) (by decide +kernel), List.mem_of_getElem? (i := 1265) (by decide +kernel)⟩
theorem lw_p30 : lw_okq (⟨"GlassLogModel", "join", "([II[II[II)V"⟩, 66) := ⟨⟨by decide +kernel, by decide +kernel⟩, List.mem_of_getElem? (i := 954) (by decide +kernel), List.mem_of_getElem? (i := 1268) (by decide +kernel), List.mem_of_getElem? (i := 1269) (by decide +kernel)⟩
theorem lw_p31 : lw_okq (⟨"GlassLogModel", "lay", "(II[II)V"⟩, 66) := ⟨⟨by decide +kernel, by decide +kernel⟩, List.mem_of_getElem? (i := 954) (by decide +kernel), List.mem_of_getElem? (i := 1272) (by decide +kernel), List.mem_of_getElem? (i := 1273) (by decide +kernel)⟩
def lw_privs_2 : List (MethodName × Nat) := [(⟨"GlassLogModel", "isCount", "(II)Z"⟩, 66), (⟨"GlassLogModel", "say", "(IIZ)Z"⟩, 66), (⟨"GlassLogModel", "word", "(II)I"⟩, 66), (⟨"GlassLogModel", "map", "(II)V"⟩, 66), (⟨"GlassLogModel", "counts", "(III)Z"⟩, 66), (⟨"GlassLogModel", "find", "(I)I"⟩, 66), (⟨"GlassLogModel", "wayOf", "(I)V"⟩, 66), (⟨"GlassLogModel", "mix", "(I)V"⟩, 66), (⟨"GlassLogModel", "turn", "()V"⟩, 66), (⟨"GlassLogModel", "toRow", "([II)V"⟩, 66), (⟨"GlassLogModel", "head", "(II[II)V"⟩, 66), (⟨"GlassLogModel", "layLog", "(III)V"⟩, 66), (⟨"GlassLogModel", "blockSum", "(IIII[II)V"⟩, 66), (⟨"GlassLogModel", "entrySum", "(IJ[II)V"⟩, 66), (⟨"GlassLogModel", "join", "([II[II[II)V"⟩, 66), (⟨"GlassLogModel", "lay", "(II[II)V"⟩, 66)]
theorem lw_r2 : ∀ q ∈ lw_privs_2, lw_okq q := List.forall_mem_cons.mpr ⟨lw_p16, List.forall_mem_cons.mpr ⟨lw_p17, List.forall_mem_cons.mpr ⟨lw_p18, List.forall_mem_cons.mpr ⟨lw_p19, List.forall_mem_cons.mpr ⟨lw_p20, List.forall_mem_cons.mpr ⟨lw_p21, List.forall_mem_cons.mpr ⟨lw_p22, List.forall_mem_cons.mpr ⟨lw_p23, List.forall_mem_cons.mpr ⟨lw_p24, List.forall_mem_cons.mpr ⟨lw_p25, List.forall_mem_cons.mpr ⟨lw_p26, List.forall_mem_cons.mpr ⟨lw_p27, List.forall_mem_cons.mpr ⟨lw_p28, List.forall_mem_cons.mpr ⟨lw_p29, List.forall_mem_cons.mpr ⟨lw_p30, List.forall_mem_cons.mpr ⟨lw_p31, fun _ h => absurd h List.not_mem_nil⟩⟩⟩⟩⟩⟩⟩⟩⟩⟩⟩⟩⟩⟩⟩⟩
theorem lw_p32 : lw_okq (⟨"GlassLogModel", "top", "([II)V"⟩, 66) := ⟨⟨by decide +kernel, by decide +kernel⟩, List.mem_of_getElem? (i := 954) (by decide +kernel), List.mem_of_getElem? (i := 1276) (by decide +kernel), List.mem_of_getElem? (i := 1277) (by decide +kernel)⟩
theorem lw_p33 : lw_okq (⟨"GlassLogModel", "tree", "(III[II)V"⟩, 66) := ⟨⟨by decide +kernel, by decide +kernel⟩, List.mem_of_getElem? (i := 954) (by decide +kernel), List.mem_of_getElem? (i := 1280) (by decide +kernel), List.mem_of_getElem? (i := 1281) (by decide +kernel)⟩
theorem lw_p34 : lw_okq (⟨"GlassLogModel", "leaf", "(II)V"⟩, 66) := ⟨⟨by decide +kernel, by decide +kernel⟩, List.mem_of_getElem? (i := 954) (by decide +kernel), List.mem_of_getElem? (i := 1284) (by decide +kernel), List.mem_of_getElem? (i := 1285) (by decide +kernel)⟩
theorem lw_p35 : lw_okq (⟨"GlassLogModel", "part", "(III)I"⟩, 66) := ⟨⟨by decide +kernel, by decide +kernel⟩, List.mem_of_getElem? (i := 954) (by decide +kernel), List.mem_of_getElem? (i := 1288) (by decide +kernel), List.mem_of_getElem? (i := 1289) (by decide +kernel)⟩
theorem lw_p36 : lw_okq (⟨"GlassLogModel", "mark", "(II[III)V"⟩, 66) := ⟨⟨by decide +kernel, by decide +kernel⟩, List.mem_of_getElem? (i := 954) (by decide +kernel), List.mem_of_getElem? (i := 1295) (by decide +kernel), List.mem_of_getElem? (i := 1296) (by decide +kernel)⟩
theorem lw_p37 : lw_okq (⟨"GlassLogModel", "isSlot", "(I)Z"⟩, 66) := ⟨⟨by decide +kernel, by decide +kernel⟩, List.mem_of_getElem? (i := 954) (by decide +kernel), List.mem_of_getElem? (i := 1304) (by decide +kernel), List.mem_of_getElem? (i := 1305) (by decide +kernel)⟩
theorem lw_p38 : lw_okq (⟨"GlassLogModel", "begin", "(IIIII)V"⟩, 66) := ⟨⟨by decide +kernel, by decide +kernel⟩, List.mem_of_getElem? (i := 954) (by decide +kernel), List.mem_of_getElem? (i := 1308) (by decide +kernel), List.mem_of_getElem? (i := 1309) (by decide +kernel)⟩
theorem lw_p39 : lw_okq (⟨"GlassLogModel", "stepLog", "(IIII)V"⟩, 66) := ⟨⟨by decide +kernel, by decide +kernel⟩, List.mem_of_getElem? (i := 954) (by decide +kernel), List.mem_of_getElem? (i := 1312) (by decide +kernel), List.mem_of_getElem? (i := 1313) (by decide +kernel)⟩
theorem lw_p40 : lw_okq (⟨"GlassLogModel", "step", "(I[II)V"⟩, 66) := ⟨⟨by decide +kernel, by decide +kernel⟩, List.mem_of_getElem? (i := 954) (by decide +kernel), List.mem_of_getElem? (i := 1316) (by decide +kernel), List.mem_of_getElem? (i := 1317) (by decide +kernel)⟩
theorem lw_p41 : lw_okq (⟨"GlassLogModel", "follow", "(II)V"⟩, 66) := ⟨⟨by decide +kernel, by decide +kernel⟩, List.mem_of_getElem? (i := 954) (by decide +kernel), List.mem_of_getElem? (i := 1328) (by decide +kernel), List.mem_of_getElem? (i := 1329) (by decide +kernel)⟩
theorem lw_p42 : lw_okq (⟨"GlassLogModel", "isStep", "(III)Z"⟩, 66) := ⟨⟨by decide +kernel, by decide +kernel⟩, List.mem_of_getElem? (i := 954) (by decide +kernel), List.mem_of_getElem? (i := 1352) (by decide +kernel), List.mem_of_getElem? (i := 1353) (by decide +kernel)⟩
theorem lw_p43 : lw_okq (⟨"GlassLogModel", "isReader", "(I)Z"⟩, 66) := ⟨⟨by decide +kernel, by decide +kernel⟩, List.mem_of_getElem? (i := 954) (by decide +kernel), List.mem_of_getElem? (i := 1368) (by decide +kernel), List.mem_of_getElem? (i := 1369) (by decide +kernel)⟩
theorem lw_p44 : lw_okq (⟨"GlassLogModel", "isGrownRight", "(I[II[II)Z"⟩, 66) := ⟨⟨by decide +kernel, by decide +kernel⟩, List.mem_of_getElem? (i := 954) (by decide +kernel), List.mem_of_getElem? (i := 1372) (by decide +kernel), List.mem_of_getElem? (i := 1373) (by decide +kernel)⟩
theorem lw_p45 : lw_okq (⟨"GlassLogModel", "laySteps", "(III)V"⟩, 66) := ⟨⟨by decide +kernel, by decide +kernel⟩, List.mem_of_getElem? (i := 954) (by decide +kernel), List.mem_of_getElem? (i := 1376) (by decide +kernel), List.mem_of_getElem? (i := 1377) (by decide +kernel)⟩
theorem lw_p46 : lw_okq (⟨"GlassLogModel", "isSpanRight", "(I[II)Z"⟩, 66) := ⟨⟨by decide +kernel, by decide +kernel⟩, List.mem_of_getElem? (i := 954) (by decide +kernel), List.mem_of_getElem? (i := 1383) (by decide +kernel), List.mem_of_getElem? (i := 1384) (by decide +kernel)⟩
theorem lw_p47 : lw_okq (⟨"GlassLogModel", "isWayRight", "(I[II)Z"⟩, 66) := ⟨⟨by decide +kernel, by decide +kernel⟩, List.mem_of_getElem? (i := 954) (by decide +kernel), List.mem_of_getElem? (i := 1387) (by decide +kernel), List.mem_of_getElem? (i := 1388) (by decide +kernel)⟩
def lw_privs_3 : List (MethodName × Nat) := [(⟨"GlassLogModel", "top", "([II)V"⟩, 66), (⟨"GlassLogModel", "tree", "(III[II)V"⟩, 66), (⟨"GlassLogModel", "leaf", "(II)V"⟩, 66), (⟨"GlassLogModel", "part", "(III)I"⟩, 66), (⟨"GlassLogModel", "mark", "(II[III)V"⟩, 66), (⟨"GlassLogModel", "isSlot", "(I)Z"⟩, 66), (⟨"GlassLogModel", "begin", "(IIIII)V"⟩, 66), (⟨"GlassLogModel", "stepLog", "(IIII)V"⟩, 66), (⟨"GlassLogModel", "step", "(I[II)V"⟩, 66), (⟨"GlassLogModel", "follow", "(II)V"⟩, 66), (⟨"GlassLogModel", "isStep", "(III)Z"⟩, 66), (⟨"GlassLogModel", "isReader", "(I)Z"⟩, 66), (⟨"GlassLogModel", "isGrownRight", "(I[II[II)Z"⟩, 66), (⟨"GlassLogModel", "laySteps", "(III)V"⟩, 66), (⟨"GlassLogModel", "isSpanRight", "(I[II)Z"⟩, 66), (⟨"GlassLogModel", "isWayRight", "(I[II)Z"⟩, 66)]
theorem lw_r3 : ∀ q ∈ lw_privs_3, lw_okq q := List.forall_mem_cons.mpr ⟨lw_p32, List.forall_mem_cons.mpr ⟨lw_p33, List.forall_mem_cons.mpr ⟨lw_p34, List.forall_mem_cons.mpr ⟨lw_p35, List.forall_mem_cons.mpr ⟨lw_p36, List.forall_mem_cons.mpr ⟨lw_p37, List.forall_mem_cons.mpr ⟨lw_p38, List.forall_mem_cons.mpr ⟨lw_p39, List.forall_mem_cons.mpr ⟨lw_p40, List.forall_mem_cons.mpr ⟨lw_p41, List.forall_mem_cons.mpr ⟨lw_p42, List.forall_mem_cons.mpr ⟨lw_p43, List.forall_mem_cons.mpr ⟨lw_p44, List.forall_mem_cons.mpr ⟨lw_p45, List.forall_mem_cons.mpr ⟨lw_p46, List.forall_mem_cons.mpr ⟨lw_p47, fun _ h => absurd h List.not_mem_nil⟩⟩⟩⟩⟩⟩⟩⟩⟩⟩⟩⟩⟩⟩⟩⟩
theorem lw_p48 : lw_okq (⟨"GlassLogModel", "agree", "([II[II)Z"⟩, 66) := ⟨⟨by decide +kernel, by decide +kernel⟩, List.mem_of_getElem? (i := 954) (by decide +kernel), List.mem_of_getElem? (i := 1395) (by decide +kernel), List.mem_of_getElem? (i := 1396) (by decide +kernel)⟩
theorem lw_p49 : lw_okq (⟨"GlassLogModel", "blame", "([II[II)V"⟩, 66) := ⟨⟨by decide +kernel, by decide +kernel⟩, List.mem_of_getElem? (i := 954) (by decide +kernel), List.mem_of_getElem? (i := 1399) (by decide +kernel), List.mem_of_getElem? (i := 1400) (by decide +kernel)⟩
theorem lw_p50 : lw_okq (⟨"GlassLogModel", "isMarked", "(I)Z"⟩, 66) := ⟨⟨by decide +kernel, by decide +kernel⟩, List.mem_of_getElem? (i := 954) (by decide +kernel), List.mem_of_getElem? (i := 1418) (by decide +kernel), List.mem_of_getElem? (i := 1419) (by decide +kernel)⟩
theorem lw_p51 : lw_okq (⟨"GlassLogModel", "isWatcher", "(I)Z"⟩, 66) := ⟨⟨by decide +kernel, by decide +kernel⟩, List.mem_of_getElem? (i := 954) (by decide +kernel), List.mem_of_getElem? (i := 1430) (by decide +kernel), List.mem_of_getElem? (i := 1431) (by decide +kernel)⟩
def lw_privs_4 : List (MethodName × Nat) := [(⟨"GlassLogModel", "agree", "([II[II)Z"⟩, 66), (⟨"GlassLogModel", "blame", "([II[II)V"⟩, 66), (⟨"GlassLogModel", "isMarked", "(I)Z"⟩, 66), (⟨"GlassLogModel", "isWatcher", "(I)Z"⟩, 66)]
theorem lw_r4 : ∀ q ∈ lw_privs_4, lw_okq q := List.forall_mem_cons.mpr ⟨lw_p48, List.forall_mem_cons.mpr ⟨lw_p49, List.forall_mem_cons.mpr ⟨lw_p50, List.forall_mem_cons.mpr ⟨lw_p51, fun _ h => absurd h List.not_mem_nil⟩⟩⟩⟩
def lw_privs : List (MethodName × Nat) := lw_privs_1 ++ (lw_privs_2 ++ (lw_privs_3 ++ (lw_privs_4)))
def lw_tbl : List Cond := k2_sels lw_privs ++ tables_1
theorem lw_privs_ok : ∀ q ∈ lw_privs, lw_okq q := by
  show ∀ q ∈ lw_privs_1 ++ (lw_privs_2 ++ (lw_privs_3 ++ (lw_privs_4))), lw_okq q
  exact List.forall_mem_append.mpr ⟨lw_r1, List.forall_mem_append.mpr ⟨lw_r2, List.forall_mem_append.mpr ⟨lw_r3, lw_r4⟩⟩⟩
def RX0 : String := "GlassLog$Head"
def TX0 : u_T := fun k => match k with
  | 0 => ("GlassLog$Head", "top", "[I", true)
  | 1 => ("GlassLog$Head", "tree", "[I", true)
  | 2 => ("GlassLog$Head", "mark", "[I", true)
  | 3 => ("GlassLog$Head", "there", "Z", false)
  | 4 => ("GlassLog$Head", "n", "I", false)
  | 5 => ("GlassLog$Head", "log", "I", false)
  | _ => ("GlassLog$Head", "keeper", "I", false)
def tyX0 : Nat → FieldType := fun k => match k with
  | 0 => .array .int
  | 1 => .array .int
  | 2 => .array .int
  | 3 => .boolean
  | 4 => .int
  | 5 => .int
  | _ => .int
abbrev wsX00 : List Cond := u_ws RX0 TX0 7
theorem nmX0 : ∀ a, a < 7 → ∀ b, b < 7 → a ≠ b → (TX0 a).2.1 ≠ (TX0 b).2.1 := by decide +kernel
theorem tyX0_ok : ∀ k, k < 7 → parseFieldDescriptor (TX0 k).2.2.1 = some (tyX0 k) := by decide +kernel
abbrev cX0_init : ByteArray := prog_2_method_1_code
def yX0_init : MethodName := ⟨RX0, "<init>", "()V"⟩
abbrev cX0_copy : ByteArray := prog_2_method_2_code
def yX0_copy : MethodName := ⟨RX0, "copy", "(LGlassLog$Head;)V"⟩
def RX1 : String := "GlassLog$House"
def TX1 : u_T := fun k => match k with
  | 0 => ("GlassLog$House", "logs", "[LGlassLog$Log;", true)
  | 1 => ("GlassLog$House", "logCount", "I", false)
  | 2 => ("GlassLog$House", "slots", "[LGlassLog$Proof;", true)
  | 3 => ("GlassLog$House", "heads", "[LGlassLog$Head;", true)
  | 4 => ("GlassLog$House", "timesInBlame", "[I", true)
  | 5 => ("GlassLog$House", "firsts", "[LGlassLog$Head;", true)
  | 6 => ("GlassLog$House", "seconds", "[LGlassLog$Head;", true)
  | 7 => ("GlassLog$House", "blameCount", "I", false)
  | _ => ("GlassLog$House", "watchers", "[LGlassLog$Watcher;", true)
def tyX1 : Nat → FieldType := fun k => match k with
  | 0 => .array (.object "GlassLog$Log")
  | 1 => .int
  | 2 => .array (.object "GlassLog$Proof")
  | 3 => .array (.object "GlassLog$Head")
  | 4 => .array .int
  | 5 => .array (.object "GlassLog$Head")
  | 6 => .array (.object "GlassLog$Head")
  | 7 => .int
  | _ => .array (.object "GlassLog$Watcher")
abbrev wsX10 : List Cond := u_ws RX1 TX1 9
theorem nmX1 : ∀ a, a < 9 → ∀ b, b < 9 → a ≠ b → (TX1 a).2.1 ≠ (TX1 b).2.1 := by decide +kernel
theorem tyX1_ok : ∀ k, k < 9 → parseFieldDescriptor (TX1 k).2.2.1 = some (tyX1 k) := by decide +kernel
abbrev cX1_init : ByteArray := prog_3_method_1_code
def yX1_init : MethodName := ⟨RX1, "<init>", "()V"⟩
abbrev cX1_logAt : ByteArray := prog_3_method_2_code
def yX1_logAt : MethodName := ⟨RX1, "logAt", "(I)LGlassLog$Log;"⟩
abbrev cX1_nextLog : ByteArray := prog_3_method_3_code
def yX1_nextLog : MethodName := ⟨RX1, "nextLog", "()LGlassLog$Log;"⟩
abbrev cX1_slotAt : ByteArray := prog_3_method_4_code
def yX1_slotAt : MethodName := ⟨RX1, "slotAt", "(I)LGlassLog$Proof;"⟩
abbrev cX1_headOf : ByteArray := prog_3_method_5_code
def yX1_headOf : MethodName := ⟨RX1, "headOf", "(I)LGlassLog$Head;"⟩
abbrev cX1_watcherAt : ByteArray := prog_3_method_6_code
def yX1_watcherAt : MethodName := ⟨RX1, "watcherAt", "(I)LGlassLog$Watcher;"⟩
abbrev cX1_firstBlamed : ByteArray := prog_3_method_7_code
def yX1_firstBlamed : MethodName := ⟨RX1, "firstBlamed", "(I)LGlassLog$Head;"⟩
abbrev cX1_secondBlamed : ByteArray := prog_3_method_8_code
def yX1_secondBlamed : MethodName := ⟨RX1, "secondBlamed", "(I)LGlassLog$Head;"⟩
abbrev cX1_tellBlame : ByteArray := prog_3_method_9_code
def yX1_tellBlame : MethodName := ⟨RX1, "tellBlame", "(LGlassLog$Head;LGlassLog$Head;)V"⟩
abbrev cX1_fullSlots : ByteArray := prog_3_method_10_code
def yX1_fullSlots : MethodName := ⟨RX1, "fullSlots", "()I"⟩
abbrev cX1_readersWithHead : ByteArray := prog_3_method_11_code
def yX1_readersWithHead : MethodName := ⟨RX1, "readersWithHead", "()I"⟩
abbrev cX1_allEntries : ByteArray := prog_3_method_12_code
def yX1_allEntries : MethodName := ⟨RX1, "allEntries", "()I"⟩
abbrev cX1_copy : ByteArray := prog_3_method_13_code
def yX1_copy : MethodName := ⟨RX1, "copy", "(LGlassLog$House;)V"⟩
def RX2 : String := "GlassLog$Keys"
def TX2 : u_T := fun k => match k with
  | 0 => ("GlassLog$Keys", "keys", "[I", true)
  | 1 => ("GlassLog$Keys", "ways", "[I", true)
  | 2 => ("GlassLog$Keys", "order", "[I", true)
  | _ => ("GlassLog$Keys", "size", "I", false)
def tyX2 : Nat → FieldType := fun k => match k with
  | 0 => .array .int
  | 1 => .array .int
  | 2 => .array .int
  | _ => .int
abbrev wsX20 : List Cond := u_ws RX2 TX2 4
theorem nmX2 : ∀ a, a < 4 → ∀ b, b < 4 → a ≠ b → (TX2 a).2.1 ≠ (TX2 b).2.1 := by decide +kernel
theorem tyX2_ok : ∀ k, k < 4 → parseFieldDescriptor (TX2 k).2.2.1 = some (tyX2 k) := by decide +kernel
abbrev cX2_init : ByteArray := prog_4_method_1_code
def yX2_init : MethodName := ⟨RX2, "<init>", "()V"⟩
abbrev cX2_find : ByteArray := prog_4_method_2_code
def yX2_find : MethodName := ⟨RX2, "find", "(I)I"⟩
abbrev cX2_keyOf : ByteArray := prog_4_method_3_code
def yX2_keyOf : MethodName := ⟨RX2, "keyOf", "(I)I"⟩
abbrev cX2_learn : ByteArray := prog_4_method_4_code
def yX2_learn : MethodName := ⟨RX2, "learn", "(LGlassLog$Mixer;I)I"⟩
abbrev cX2_isAhead : ByteArray := prog_4_method_5_code
def yX2_isAhead : MethodName := ⟨RX2, "isAhead", "(II)Z"⟩
abbrev cX2_copyFirst : ByteArray := prog_4_method_6_code
def yX2_copyFirst : MethodName := ⟨RX2, "copyFirst", "(LGlassLog$Keys;I)V"⟩
def RX3 : String := "GlassLog$Log"
def TX3 : u_T := fun k => match k with
  | 0 => ("GlassLog$Log", "known", "LGlassLog$Keys;", true)
  | 1 => ("GlassLog$Log", "marks", "LGlassLog$Marks;", true)
  | 2 => ("GlassLog$Log", "numbers", "[I", true)
  | 3 => ("GlassLog$Log", "fates", "[I", true)
  | 4 => ("GlassLog$Log", "values", "[J", true)
  | 5 => ("GlassLog$Log", "sums", "[I", true)
  | 6 => ("GlassLog$Log", "keeper", "I", false)
  | 7 => ("GlassLog$Log", "size", "I", false)
  | 8 => ("GlassLog$Log", "tree", "[I", true)
  | _ => ("GlassLog$Log", "treeCount", "I", false)
def tyX3 : Nat → FieldType := fun k => match k with
  | 0 => .object "GlassLog$Keys"
  | 1 => .object "GlassLog$Marks"
  | 2 => .array .int
  | 3 => .array .int
  | 4 => .array .long
  | 5 => .array .int
  | 6 => .int
  | 7 => .int
  | 8 => .array .int
  | _ => .int
abbrev wsX30 : List Cond := u_ws RX3 TX3 10
theorem nmX3 : ∀ a, a < 10 → ∀ b, b < 10 → a ≠ b → (TX3 a).2.1 ≠ (TX3 b).2.1 := by decide +kernel
theorem tyX3_ok : ∀ k, k < 10 → parseFieldDescriptor (TX3 k).2.2.1 = some (tyX3 k) := by decide +kernel
abbrev cX3_init : ByteArray := prog_5_method_1_code
def yX3_init : MethodName := ⟨RX3, "<init>", "()V"⟩
abbrev cX3_clear : ByteArray := prog_5_method_2_code
def yX3_clear : MethodName := ⟨RX3, "clear", "(I)V"⟩
abbrev cX3_reaches : ByteArray := prog_5_method_3_code
def yX3_reaches : MethodName := ⟨RX3, "reaches", "(I)Z"⟩
abbrev cX3_shows : ByteArray := prog_5_method_4_code
def yX3_shows : MethodName := ⟨RX3, "shows", "(I)Z"⟩
abbrev cX3_showsAll : ByteArray := prog_5_method_5_code
def yX3_showsAll : MethodName := ⟨RX3, "showsAll", "(II)Z"⟩
abbrev cX3_keyAt : ByteArray := prog_5_method_6_code
def yX3_keyAt : MethodName := ⟨RX3, "keyAt", "(I)I"⟩
abbrev cX3_append : ByteArray := prog_5_method_7_code
def yX3_append : MethodName := ⟨RX3, "append", "(LGlassLog$Mixer;IJ)V"⟩
abbrev cX3_joinFullBlocks : ByteArray := prog_5_method_8_code
def yX3_joinFullBlocks : MethodName := ⟨RX3, "joinFullBlocks", "(LGlassLog$Mixer;)V"⟩
abbrev cX3_tellMark : ByteArray := prog_5_method_9_code
def yX3_tellMark : MethodName := ⟨RX3, "tellMark", "(IZ)Z"⟩
abbrev cX3_forget : ByteArray := prog_5_method_10_code
def yX3_forget : MethodName := ⟨RX3, "forget", "(I)I"⟩
abbrev cX3_goneEntries : ByteArray := prog_5_method_11_code
def yX3_goneEntries : MethodName := ⟨RX3, "goneEntries", "()I"⟩
abbrev cX3_showEntries : ByteArray := prog_5_method_12_code
def yX3_showEntries : MethodName := ⟨RX3, "showEntries", "(LGlassLog$Proof;III)V"⟩
abbrev cX3_showGrowth : ByteArray := prog_5_method_13_code
def yX3_showGrowth : MethodName := ⟨RX3, "showGrowth", "(LGlassLog$Proof;II)V"⟩
abbrev cX3_showBlocks : ByteArray := prog_5_method_14_code
def yX3_showBlocks : MethodName := ⟨RX3, "showBlocks", "(LGlassLog$Proof;II)V"⟩
abbrev cX3_climb : ByteArray := prog_5_method_15_code
def yX3_climb : MethodName := ⟨RX3, "climb", "(LGlassLog$Tower;I)V"⟩
abbrev cX3_copyFirst : ByteArray := prog_5_method_16_code
def yX3_copyFirst : MethodName := ⟨RX3, "copyFirst", "(LGlassLog$Log;I)V"⟩
def RX4 : String := "GlassLog$MapAt"
def TX4 : u_T := fun k => match k with
  | 0 => ("GlassLog$MapAt", "mixer", "LGlassLog$Mixer;", true)
  | 1 => ("GlassLog$MapAt", "latest", "[I", true)
  | 2 => ("GlassLog$MapAt", "inside", "[I", true)
  | 3 => ("GlassLog$MapAt", "trees", "[I", true)
  | 4 => ("GlassLog$MapAt", "way", "[I", true)
  | _ => ("GlassLog$MapAt", "size", "I", false)
def tyX4 : Nat → FieldType := fun k => match k with
  | 0 => .object "GlassLog$Mixer"
  | 1 => .array .int
  | 2 => .array .int
  | 3 => .array .int
  | 4 => .array .int
  | _ => .int
abbrev wsX40 : List Cond := u_ws RX4 TX4 6
theorem nmX4 : ∀ a, a < 6 → ∀ b, b < 6 → a ≠ b → (TX4 a).2.1 ≠ (TX4 b).2.1 := by decide +kernel
theorem tyX4_ok : ∀ k, k < 6 → parseFieldDescriptor (TX4 k).2.2.1 = some (tyX4 k) := by decide +kernel
abbrev cX4_init : ByteArray := prog_6_method_1_code
def yX4_init : MethodName := ⟨RX4, "<init>", "(LGlassLog$Mixer;)V"⟩
abbrev cX4_read : ByteArray := prog_6_method_2_code
def yX4_read : MethodName := ⟨RX4, "read", "(LGlassLog$Log;I)V"⟩
abbrev cX4_heed : ByteArray := prog_6_method_3_code
def yX4_heed : MethodName := ⟨RX4, "heed", "(LGlassLog$Log;I)V"⟩
abbrev cX4_latestOf : ByteArray := prog_6_method_4_code
def yX4_latestOf : MethodName := ⟨RX4, "latestOf", "(I)I"⟩
abbrev cX4_writeTree : ByteArray := prog_6_method_5_code
def yX4_writeTree : MethodName := ⟨RX4, "writeTree", "(LGlassLog$Keys;[I)V"⟩
abbrev cX4_showWay : ByteArray := prog_6_method_6_code
def yX4_showWay : MethodName := ⟨RX4, "showWay", "(LGlassLog$Keys;LGlassLog$Proof;)I"⟩
abbrev cX4_partingOf : ByteArray := prog_6_method_7_code
def yX4_partingOf : MethodName := ⟨RX4, "partingOf", "(LGlassLog$Keys;III)I"⟩
abbrev cX4_plant : ByteArray := prog_6_method_8_code
def yX4_plant : MethodName := ⟨RX4, "plant", "(LGlassLog$MapAt;LGlassLog$Keys;IIII)V"⟩
def RX5 : String := "GlassLog$Marks"
def TX5 : u_T := fun k => match k with
  | 0 => ("GlassLog$Marks", "keys", "[I", true)
  | 1 => ("GlassLog$Marks", "since", "[I", true)
  | 2 => ("GlassLog$Marks", "hides", "[Z", true)
  | _ => ("GlassLog$Marks", "size", "I", false)
def tyX5 : Nat → FieldType := fun k => match k with
  | 0 => .array .int
  | 1 => .array .int
  | 2 => .array .boolean
  | _ => .int
abbrev wsX50 : List Cond := u_ws RX5 TX5 4
theorem nmX5 : ∀ a, a < 4 → ∀ b, b < 4 → a ≠ b → (TX5 a).2.1 ≠ (TX5 b).2.1 := by decide +kernel
theorem tyX5_ok : ∀ k, k < 4 → parseFieldDescriptor (TX5 k).2.2.1 = some (tyX5 k) := by decide +kernel
abbrev cX5_init : ByteArray := prog_7_method_1_code
def yX5_init : MethodName := ⟨RX5, "<init>", "()V"⟩
abbrev cX5_tell : ByteArray := prog_7_method_2_code
def yX5_tell : MethodName := ⟨RX5, "tell", "(IIZ)Z"⟩
abbrev cX5_isTold : ByteArray := prog_7_method_3_code
def yX5_isTold : MethodName := ⟨RX5, "isTold", "(I)Z"⟩
abbrev cX5_howMany : ByteArray := prog_7_method_4_code
def yX5_howMany : MethodName := ⟨RX5, "howMany", "(Z)I"⟩
abbrev cX5_copyUpTo : ByteArray := prog_7_method_5_code
def yX5_copyUpTo : MethodName := ⟨RX5, "copyUpTo", "(LGlassLog$Marks;I)V"⟩
def RX6 : String := "GlassLog$Mixer"
def TX6 : u_T := fun k => match k with
  | 0 => ("GlassLog$Mixer", "words", "[I", true)
  | _ => ("GlassLog$Mixer", "a", "[I", true)
def tyX6 : Nat → FieldType := fun k => match k with
  | 0 => .array .int
  | _ => .array .int
abbrev wsX60 : List Cond := u_ws RX6 TX6 2
theorem nmX6 : ∀ a, a < 2 → ∀ b, b < 2 → a ≠ b → (TX6 a).2.1 ≠ (TX6 b).2.1 := by decide +kernel
theorem tyX6_ok : ∀ k, k < 2 → parseFieldDescriptor (TX6 k).2.2.1 = some (tyX6 k) := by decide +kernel
abbrev cX6_init : ByteArray := prog_8_method_1_code
def yX6_init : MethodName := ⟨RX6, "<init>", "()V"⟩
abbrev cX6_sumOfEntry : ByteArray := prog_8_method_2_code
def yX6_sumOfEntry : MethodName := ⟨RX6, "sumOfEntry", "(IJ[II)V"⟩
abbrev cX6_join : ByteArray := prog_8_method_3_code
def yX6_join : MethodName := ⟨RX6, "join", "([II[II[II)V"⟩
abbrev cX6_wayOf : ByteArray := prog_8_method_4_code
def yX6_wayOf : MethodName := ⟨RX6, "wayOf", "(I[II)V"⟩
abbrev cX6_sumOfLeaf : ByteArray := prog_8_method_5_code
def yX6_sumOfLeaf : MethodName := ⟨RX6, "sumOfLeaf", "(II[II)V"⟩
abbrev cX6_markOf : ByteArray := prog_8_method_6_code
def yX6_markOf : MethodName := ⟨RX6, "markOf", "(LGlassLog$Head;[I)V"⟩
abbrev cX6_mix : ByteArray := prog_8_method_7_code
def yX6_mix : MethodName := ⟨RX6, "mix", "(I[II)V"⟩
abbrev cX6_turn : ByteArray := prog_8_method_8_code
def yX6_turn : MethodName := ⟨RX6, "turn", "()V"⟩
def RX7 : String := "GlassLog$Proof"
def TX7 : u_T := fun k => match k with
  | 0 => ("GlassLog$Proof", "entryKeys", "[I", true)
  | 1 => ("GlassLog$Proof", "entryValues", "[J", true)
  | 2 => ("GlassLog$Proof", "steps", "[I", false)
  | 3 => ("GlassLog$Proof", "entryCount", "I", false)
  | 4 => ("GlassLog$Proof", "stepCount", "I", false)
  | 5 => ("GlassLog$Proof", "kind", "I", false)
  | 6 => ("GlassLog$Proof", "n", "I", false)
  | 7 => ("GlassLog$Proof", "first", "I", false)
  | 8 => ("GlassLog$Proof", "end", "I", false)
  | 9 => ("GlassLog$Proof", "key", "I", false)
  | 10 => ("GlassLog$Proof", "latest", "I", false)
  | _ => ("GlassLog$Proof", "other", "I", false)
def tyX7 : Nat → FieldType := fun k => match k with
  | 0 => .array .int
  | 1 => .array .long
  | 2 => .array .int
  | 3 => .int
  | 4 => .int
  | 5 => .int
  | 6 => .int
  | 7 => .int
  | 8 => .int
  | 9 => .int
  | 10 => .int
  | _ => .int
abbrev wsX70 : List Cond := u_ws RX7 TX7 12
theorem nmX7 : ∀ a, a < 12 → ∀ b, b < 12 → a ≠ b → (TX7 a).2.1 ≠ (TX7 b).2.1 := by decide +kernel
theorem tyX7_ok : ∀ k, k < 12 → parseFieldDescriptor (TX7 k).2.2.1 = some (tyX7 k) := by decide +kernel
abbrev cX7_init : ByteArray := prog_9_method_1_code
def yX7_init : MethodName := ⟨RX7, "<init>", "()V"⟩
abbrev cX7_begin : ByteArray := prog_9_method_2_code
def yX7_begin : MethodName := ⟨RX7, "begin", "(III)V"⟩
abbrev cX7_tellEntry : ByteArray := prog_9_method_3_code
def yX7_tellEntry : MethodName := ⟨RX7, "tellEntry", "(IJ)V"⟩
abbrev cX7_tellStep : ByteArray := prog_9_method_4_code
def yX7_tellStep : MethodName := ⟨RX7, "tellStep", "([II)V"⟩
abbrev cX7_hasStep : ByteArray := prog_9_method_5_code
def yX7_hasStep : MethodName := ⟨RX7, "hasStep", "(I)Z"⟩
abbrev cX7_toldKey : ByteArray := prog_9_method_6_code
def yX7_toldKey : MethodName := ⟨RX7, "toldKey", "()I"⟩
abbrev cX7_copy : ByteArray := prog_9_method_7_code
def yX7_copy : MethodName := ⟨RX7, "copy", "(LGlassLog$Proof;)V"⟩
def RX8 : String := "GlassLog$Reckoner"
def TX8 : u_T := fun k => match k with
  | 0 => ("GlassLog$Reckoner", "mixer", "LGlassLog$Mixer;", true)
  | 1 => ("GlassLog$Reckoner", "map", "LGlassLog$MapAt;", true)
  | 2 => ("GlassLog$Reckoner", "tower", "LGlassLog$Tower;", true)
  | 3 => ("GlassLog$Reckoner", "sum", "[I", true)
  | _ => ("GlassLog$Reckoner", "way", "[I", true)
def tyX8 : Nat → FieldType := fun k => match k with
  | 0 => .object "GlassLog$Mixer"
  | 1 => .object "GlassLog$MapAt"
  | 2 => .object "GlassLog$Tower"
  | 3 => .array .int
  | _ => .array .int
abbrev wsX80 : List Cond := u_ws RX8 TX8 5
theorem nmX8 : ∀ a, a < 5 → ∀ b, b < 5 → a ≠ b → (TX8 a).2.1 ≠ (TX8 b).2.1 := by decide +kernel
theorem tyX8_ok : ∀ k, k < 5 → parseFieldDescriptor (TX8 k).2.2.1 = some (tyX8 k) := by decide +kernel
abbrev cX8_init : ByteArray := prog_10_method_1_code
def yX8_init : MethodName := ⟨RX8, "<init>", "(LGlassLog$Mixer;LGlassLog$MapAt;)V"⟩
abbrev cX8_topOf : ByteArray := prog_10_method_2_code
def yX8_topOf : MethodName := ⟨RX8, "topOf", "(LGlassLog$Log;I[I)V"⟩
abbrev cX8_treeOf : ByteArray := prog_10_method_3_code
def yX8_treeOf : MethodName := ⟨RX8, "treeOf", "(LGlassLog$Log;I[I)V"⟩
abbrev cX8_makeHead : ByteArray := prog_10_method_4_code
def yX8_makeHead : MethodName := ⟨RX8, "makeHead", "(LGlassLog$Log;IILGlassLog$Head;)V"⟩
abbrev cX8_isMarked : ByteArray := prog_10_method_5_code
def yX8_isMarked : MethodName := ⟨RX8, "isMarked", "(LGlassLog$Head;)Z"⟩
abbrev cX8_isGrowth : ByteArray := prog_10_method_6_code
def yX8_isGrowth : MethodName := ⟨RX8, "isGrowth", "(LGlassLog$Proof;LGlassLog$Head;LGlassLog$Head;)Z"⟩
abbrev cX8_isRight : ByteArray := prog_10_method_7_code
def yX8_isRight : MethodName := ⟨RX8, "isRight", "(LGlassLog$Proof;LGlassLog$Head;)Z"⟩
abbrev cX8_hasEntries : ByteArray := prog_10_method_8_code
def yX8_hasEntries : MethodName := ⟨RX8, "hasEntries", "(LGlassLog$Proof;LGlassLog$Head;)Z"⟩
abbrev cX8_climb : ByteArray := prog_10_method_9_code
def yX8_climb : MethodName := ⟨RX8, "climb", "(LGlassLog$Proof;III)I"⟩
abbrev cX8_leadsTo : ByteArray := prog_10_method_10_code
def yX8_leadsTo : MethodName := ⟨RX8, "leadsTo", "(LGlassLog$Proof;ILGlassLog$Head;)Z"⟩
def RX9 : String := "GlassLog$Tower"
def TX9 : u_T := fun k => match k with
  | 0 => ("GlassLog$Tower", "mixer", "LGlassLog$Mixer;", true)
  | 1 => ("GlassLog$Tower", "starts", "[I", true)
  | 2 => ("GlassLog$Tower", "sizes", "[I", true)
  | 3 => ("GlassLog$Tower", "sums", "[I", true)
  | _ => ("GlassLog$Tower", "height", "I", false)
def tyX9 : Nat → FieldType := fun k => match k with
  | 0 => .object "GlassLog$Mixer"
  | 1 => .array .int
  | 2 => .array .int
  | 3 => .array .int
  | _ => .int
abbrev wsX90 : List Cond := u_ws RX9 TX9 5
theorem nmX9 : ∀ a, a < 5 → ∀ b, b < 5 → a ≠ b → (TX9 a).2.1 ≠ (TX9 b).2.1 := by decide +kernel
theorem tyX9_ok : ∀ k, k < 5 → parseFieldDescriptor (TX9 k).2.2.1 = some (tyX9 k) := by decide +kernel
abbrev cX9_init : ByteArray := prog_11_method_1_code
def yX9_init : MethodName := ⟨RX9, "<init>", "(LGlassLog$Mixer;)V"⟩
abbrev cX9_clear : ByteArray := prog_11_method_2_code
def yX9_clear : MethodName := ⟨RX9, "clear", "()V"⟩
abbrev cX9_put : ByteArray := prog_11_method_3_code
def yX9_put : MethodName := ⟨RX9, "put", "(II[II)V"⟩
abbrev cX9_areOne : ByteArray := prog_11_method_4_code
def yX9_areOne : MethodName := ⟨RX9, "areOne", "(II)Z"⟩
abbrev cX9_writeTop : ByteArray := prog_11_method_5_code
def yX9_writeTop : MethodName := ⟨RX9, "writeTop", "([I)V"⟩
def RX10 : String := "GlassLog$Watcher"
def TX10 : u_T := fun k => match k with
  | 0 => ("GlassLog$Watcher", "lastRead", "[I", true)
  | 1 => ("GlassLog$Watcher", "there", "Z", false)
  | 2 => ("GlassLog$Watcher", "log", "I", false)
  | 3 => ("GlassLog$Watcher", "position", "I", false)
  | 4 => ("GlassLog$Watcher", "keysRead", "I", false)
  | 5 => ("GlassLog$Watcher", "low", "I", false)
  | _ => ("GlassLog$Watcher", "high", "I", false)
def tyX10 : Nat → FieldType := fun k => match k with
  | 0 => .array .int
  | 1 => .boolean
  | 2 => .int
  | 3 => .int
  | 4 => .int
  | 5 => .int
  | _ => .int
abbrev wsX100 : List Cond := u_ws RX10 TX10 7
theorem nmX10 : ∀ a, a < 7 → ∀ b, b < 7 → a ≠ b → (TX10 a).2.1 ≠ (TX10 b).2.1 := by decide +kernel
theorem tyX10_ok : ∀ k, k < 7 → parseFieldDescriptor (TX10 k).2.2.1 = some (tyX10 k) := by decide +kernel
abbrev cX10_init : ByteArray := prog_12_method_1_code
def yX10_init : MethodName := ⟨RX10, "<init>", "()V"⟩
abbrev cX10_begin : ByteArray := prog_12_method_2_code
def yX10_begin : MethodName := ⟨RX10, "begin", "(III)V"⟩
abbrev cX10_readOn : ByteArray := prog_12_method_3_code
def yX10_readOn : MethodName := ⟨RX10, "readOn", "(LGlassLog$Log;)V"⟩
abbrev cX10_note : ByteArray := prog_12_method_4_code
def yX10_note : MethodName := ⟨RX10, "note", "(I)V"⟩
abbrev cX10_unlikeKeys : ByteArray := prog_12_method_5_code
def yX10_unlikeKeys : MethodName := ⟨RX10, "unlikeKeys", "(LGlassLog$MapAt;I)I"⟩
abbrev cX10_copy : ByteArray := prog_12_method_6_code
def yX10_copy : MethodName := ⟨RX10, "copy", "(LGlassLog$Watcher;)V"⟩
def RX11 : String := "GlassLog"
def TX11 : u_T := fun k => match k with
  | 0 => ("GlassLog", "mixer", "LGlassLog$Mixer;", true)
  | 1 => ("GlassLog", "map", "LGlassLog$MapAt;", true)
  | 2 => ("GlassLog", "reckoner", "LGlassLog$Reckoner;", true)
  | 3 => ("GlassLog", "now", "LGlassLog$House;", true)
  | 4 => ("GlassLog", "shownHead", "LGlassLog$Head;", true)
  | 5 => ("GlassLog", "shownProof", "LGlassLog$Proof;", true)
  | _ => ("GlassLog", "kept", "LGlassLog$House;", false)
def tyX11 : Nat → FieldType := fun k => match k with
  | 0 => .object "GlassLog$Mixer"
  | 1 => .object "GlassLog$MapAt"
  | 2 => .object "GlassLog$Reckoner"
  | 3 => .object "GlassLog$House"
  | 4 => .object "GlassLog$Head"
  | 5 => .object "GlassLog$Proof"
  | _ => .object "GlassLog$House"
abbrev wsX110 : List Cond := u_ws RX11 TX11 7
theorem nmX11 : ∀ a, a < 7 → ∀ b, b < 7 → a ≠ b → (TX11 a).2.1 ≠ (TX11 b).2.1 := by decide +kernel
theorem tyX11_ok : ∀ k, k < 7 → parseFieldDescriptor (TX11 k).2.2.1 = some (tyX11 k) := by decide +kernel
abbrev cX11_init : ByteArray := prog_1_method_1_code
def yX11_init : MethodName := ⟨RX11, "<init>", "()V"⟩
abbrev cX11_open : ByteArray := prog_1_method_2_code
def yX11_open : MethodName := ⟨RX11, "open", "(I)I"⟩
abbrev cX11_add : ByteArray := prog_1_method_3_code
def yX11_add : MethodName := ⟨RX11, "add", "(IIJ)I"⟩
abbrev cX11_fork : ByteArray := prog_1_method_4_code
def yX11_fork : MethodName := ⟨RX11, "fork", "(II)I"⟩
abbrev cX11_hide : ByteArray := prog_1_method_5_code
def yX11_hide : MethodName := ⟨RX11, "hide", "(II)Z"⟩
abbrev cX11_lag : ByteArray := prog_1_method_6_code
def yX11_lag : MethodName := ⟨RX11, "lag", "(II)Z"⟩
abbrev cX11_prune : ByteArray := prog_1_method_7_code
def yX11_prune : MethodName := ⟨RX11, "prune", "(II)I"⟩
abbrev cX11_keep : ByteArray := prog_1_method_8_code
def yX11_keep : MethodName := ⟨RX11, "keep", "(II)Z"⟩
abbrev cX11_count : ByteArray := prog_1_method_9_code
def yX11_count : MethodName := ⟨RX11, "count", "(II)I"⟩
abbrev cX11_latest : ByteArray := prog_1_method_10_code
def yX11_latest : MethodName := ⟨RX11, "latest", "(III)I"⟩
abbrev cX11_head : ByteArray := prog_1_method_11_code
def yX11_head : MethodName := ⟨RX11, "head", "(IIII)I"⟩
abbrev cX11_within : ByteArray := prog_1_method_12_code
def yX11_within : MethodName := ⟨RX11, "within", "(IIII)I"⟩
abbrev cX11_grown : ByteArray := prog_1_method_13_code
def yX11_grown : MethodName := ⟨RX11, "grown", "(IIII)I"⟩
abbrev cX11_held : ByteArray := prog_1_method_14_code
def yX11_held : MethodName := ⟨RX11, "held", "(IIII)I"⟩
abbrev cX11_absent : ByteArray := prog_1_method_15_code
def yX11_absent : MethodName := ⟨RX11, "absent", "(IIII)I"⟩
abbrev cX11_span : ByteArray := prog_1_method_16_code
def yX11_span : MethodName := ⟨RX11, "span", "(IIIII)I"⟩
abbrev cX11_drop : ByteArray := prog_1_method_17_code
def yX11_drop : MethodName := ⟨RX11, "drop", "(I)I"⟩
abbrev cX11_proof : ByteArray := prog_1_method_18_code
def yX11_proof : MethodName := ⟨RX11, "proof", "(II)I"⟩
abbrev cX11_step : ByteArray := prog_1_method_19_code
def yX11_step : MethodName := ⟨RX11, "step", "(III)I"⟩
abbrev cX11_bend : ByteArray := prog_1_method_20_code
def yX11_bend : MethodName := ⟨RX11, "bend", "(IIII)Z"⟩
abbrev cX11_forge : ByteArray := prog_1_method_21_code
def yX11_forge : MethodName := ⟨RX11, "forge", "(IIIJ)Z"⟩
abbrev cX11_check : ByteArray := prog_1_method_22_code
def yX11_check : MethodName := ⟨RX11, "check", "(III)I"⟩
abbrev cX11_take : ByteArray := prog_1_method_23_code
def yX11_take : MethodName := ⟨RX11, "take", "(III)I"⟩
abbrev cX11_talk : ByteArray := prog_1_method_24_code
def yX11_talk : MethodName := ⟨RX11, "talk", "(II)I"⟩
abbrev cX11_reader : ByteArray := prog_1_method_25_code
def yX11_reader : MethodName := ⟨RX11, "reader", "(II)I"⟩
abbrev cX11_blame : ByteArray := prog_1_method_26_code
def yX11_blame : MethodName := ⟨RX11, "blame", "(II)I"⟩
abbrev cX11_smear : ByteArray := prog_1_method_27_code
def yX11_smear : MethodName := ⟨RX11, "smear", "(III)Z"⟩
abbrev cX11_watcher : ByteArray := prog_1_method_28_code
def yX11_watcher : MethodName := ⟨RX11, "watcher", "(IIII)Z"⟩
abbrev cX11_watch : ByteArray := prog_1_method_29_code
def yX11_watch : MethodName := ⟨RX11, "watch", "(I)I"⟩
abbrev cX11_watching : ByteArray := prog_1_method_30_code
def yX11_watching : MethodName := ⟨RX11, "watching", "(II)I"⟩
abbrev cX11_all : ByteArray := prog_1_method_31_code
def yX11_all : MethodName := ⟨RX11, "all", "(I)I"⟩
abbrev cX11_image : ByteArray := prog_1_method_32_code
def yX11_image : MethodName := ⟨RX11, "image", "()Z"⟩
abbrev cX11_back : ByteArray := prog_1_method_33_code
def yX11_back : MethodName := ⟨RX11, "back", "()Z"⟩
abbrev cX11_agree : ByteArray := prog_1_method_34_code
def yX11_agree : MethodName := ⟨RX11, "agree", "(LGlassLog$Head;LGlassLog$Head;)Z"⟩
abbrev cX11_isPlaceInSum : ByteArray := prog_1_method_35_code
def yX11_isPlaceInSum : MethodName := ⟨RX11, "isPlaceInSum", "(I)Z"⟩
abbrev cX11_isSameSum : ByteArray := prog_1_method_36_code
def yX11_isSameSum : MethodName := ⟨RX11, "isSameSum", "([I[I)Z"⟩
abbrev cX11_copySum : ByteArray := prog_1_method_37_code
def yX11_copySum : MethodName := ⟨RX11, "copySum", "([II[II)V"⟩
abbrev cX11_setNought : ByteArray := prog_1_method_38_code
def yX11_setNought : MethodName := ⟨RX11, "setNought", "([II)V"⟩
abbrev cX11_bitOfWay : ByteArray := prog_1_method_39_code
def yX11_bitOfWay : MethodName := ⟨RX11, "bitOfWay", "([III)I"⟩
abbrev cX11_blockLevel : ByteArray := prog_1_method_40_code
def yX11_blockLevel : MethodName := ⟨RX11, "blockLevel", "(II)I"⟩
def RX12 : String := "GlassLogModel"
def TX12 : u_T := fun k => match k with
  | 0 => ("GlassLogModel", "logs", "[I", true)
  | 1 => ("GlassLogModel", "logMany", "I", false)
  | 2 => ("GlassLogModel", "keys", "[I", true)
  | 3 => ("GlassLogModel", "values", "[J", true)
  | 4 => ("GlassLogModel", "gone", "[Z", true)
  | 5 => ("GlassLogModel", "kept", "[Z", true)
  | 6 => ("GlassLogModel", "wordKey", "[I", true)
  | 7 => ("GlassLogModel", "wordSince", "[I", true)
  | 8 => ("GlassLogModel", "wordHides", "[Z", true)
  | 9 => ("GlassLogModel", "slots", "[I", true)
  | 10 => ("GlassLogModel", "slotKeys", "[I", true)
  | 11 => ("GlassLogModel", "slotValues", "[J", true)
  | 12 => ("GlassLogModel", "steps", "[I", true)
  | 13 => ("GlassLogModel", "readers", "[I", true)
  | 14 => ("GlassLogModel", "has", "[Z", true)
  | 15 => ("GlassLogModel", "blames", "[I", true)
  | 16 => ("GlassLogModel", "blameMany", "I", false)
  | 17 => ("GlassLogModel", "watchers", "[I", true)
  | 18 => ("GlassLogModel", "watches", "[Z", true)
  | 19 => ("GlassLogModel", "watchKey", "[I", true)
  | 20 => ("GlassLogModel", "watchLast", "[I", true)
  | 21 => ("GlassLogModel", "hasImage", "Z", false)
  | 22 => ("GlassLogModel", "kLogs", "[I", true)
  | 23 => ("GlassLogModel", "kLogMany", "I", false)
  | 24 => ("GlassLogModel", "kKeys", "[I", true)
  | 25 => ("GlassLogModel", "kValues", "[J", true)
  | 26 => ("GlassLogModel", "kGone", "[Z", true)
  | 27 => ("GlassLogModel", "kKept", "[Z", true)
  | 28 => ("GlassLogModel", "kWordKey", "[I", true)
  | 29 => ("GlassLogModel", "kWordSince", "[I", true)
  | 30 => ("GlassLogModel", "kWordHides", "[Z", true)
  | 31 => ("GlassLogModel", "kSlots", "[I", true)
  | 32 => ("GlassLogModel", "kSlotKeys", "[I", true)
  | 33 => ("GlassLogModel", "kSlotValues", "[J", true)
  | 34 => ("GlassLogModel", "kSteps", "[I", true)
  | 35 => ("GlassLogModel", "kReaders", "[I", true)
  | 36 => ("GlassLogModel", "kHas", "[Z", true)
  | 37 => ("GlassLogModel", "kBlames", "[I", true)
  | 38 => ("GlassLogModel", "kBlameMany", "I", false)
  | 39 => ("GlassLogModel", "kWatchers", "[I", true)
  | 40 => ("GlassLogModel", "kWatches", "[Z", true)
  | 41 => ("GlassLogModel", "kWatchKey", "[I", true)
  | 42 => ("GlassLogModel", "kWatchLast", "[I", true)
  | 43 => ("GlassLogModel", "words", "[I", true)
  | 44 => ("GlassLogModel", "mixed", "[I", true)
  | 45 => ("GlassLogModel", "deep", "[I", true)
  | 46 => ("GlassLogModel", "from", "[I", true)
  | 47 => ("GlassLogModel", "size", "[I", true)
  | 48 => ("GlassLogModel", "sums", "[I", true)
  | 49 => ("GlassLogModel", "blocks", "I", false)
  | 50 => ("GlassLogModel", "one", "[I", true)
  | 51 => ("GlassLogModel", "block", "[I", true)
  | 52 => ("GlassLogModel", "mapKey", "[I", true)
  | 53 => ("GlassLogModel", "mapLatest", "[I", true)
  | 54 => ("GlassLogModel", "way", "[I", true)
  | 55 => ("GlassLogModel", "order", "[I", true)
  | 56 => ("GlassLogModel", "other", "[I", true)
  | 57 => ("GlassLogModel", "mapMany", "I", false)
  | 58 => ("GlassLogModel", "trees", "[I", true)
  | 59 => ("GlassLogModel", "asked", "[I", true)
  | 60 => ("GlassLogModel", "side", "[I", true)
  | 61 => ("GlassLogModel", "keyWay", "[I", true)
  | 62 => ("GlassLogModel", "alone", "I", false)
  | 63 => ("GlassLogModel", "used", "I", false)
  | 64 => ("GlassLogModel", "found", "[I", true)
  | _ => ("GlassLogModel", "top", "[I", true)
def tyX12 : Nat → FieldType := fun k => match k with
  | 0 => .array .int
  | 1 => .int
  | 2 => .array .int
  | 3 => .array .long
  | 4 => .array .boolean
  | 5 => .array .boolean
  | 6 => .array .int
  | 7 => .array .int
  | 8 => .array .boolean
  | 9 => .array .int
  | 10 => .array .int
  | 11 => .array .long
  | 12 => .array .int
  | 13 => .array .int
  | 14 => .array .boolean
  | 15 => .array .int
  | 16 => .int
  | 17 => .array .int
  | 18 => .array .boolean
  | 19 => .array .int
  | 20 => .array .int
  | 21 => .boolean
  | 22 => .array .int
  | 23 => .int
  | 24 => .array .int
  | 25 => .array .long
  | 26 => .array .boolean
  | 27 => .array .boolean
  | 28 => .array .int
  | 29 => .array .int
  | 30 => .array .boolean
  | 31 => .array .int
  | 32 => .array .int
  | 33 => .array .long
  | 34 => .array .int
  | 35 => .array .int
  | 36 => .array .boolean
  | 37 => .array .int
  | 38 => .int
  | 39 => .array .int
  | 40 => .array .boolean
  | 41 => .array .int
  | 42 => .array .int
  | 43 => .array .int
  | 44 => .array .int
  | 45 => .array .int
  | 46 => .array .int
  | 47 => .array .int
  | 48 => .array .int
  | 49 => .int
  | 50 => .array .int
  | 51 => .array .int
  | 52 => .array .int
  | 53 => .array .int
  | 54 => .array .int
  | 55 => .array .int
  | 56 => .array .int
  | 57 => .int
  | 58 => .array .int
  | 59 => .array .int
  | 60 => .array .int
  | 61 => .array .int
  | 62 => .int
  | 63 => .int
  | 64 => .array .int
  | _ => .array .int
abbrev wsX120 : List Cond := u_ws RX12 TX12 66
theorem nmX12 : ∀ a, a < 66 → ∀ b, b < 66 → a ≠ b → (TX12 a).2.1 ≠ (TX12 b).2.1 := by decide +kernel
theorem tyX12_ok : ∀ k, k < 66 → parseFieldDescriptor (TX12 k).2.2.1 = some (tyX12 k) := by decide +kernel
abbrev cX12_init : ByteArray := prog_14_method_1_code
def yX12_init : MethodName := ⟨RX12, "<init>", "()V"⟩
abbrev cX12_turn : ByteArray := prog_14_method_2_code
def yX12_turn : MethodName := ⟨RX12, "turn", "()V"⟩
abbrev cX12_mix : ByteArray := prog_14_method_3_code
def yX12_mix : MethodName := ⟨RX12, "mix", "(I)V"⟩
abbrev cX12_toRow : ByteArray := prog_14_method_4_code
def yX12_toRow : MethodName := ⟨RX12, "toRow", "([II)V"⟩
abbrev cX12_entrySum : ByteArray := prog_14_method_5_code
def yX12_entrySum : MethodName := ⟨RX12, "entrySum", "(IJ[II)V"⟩
abbrev cX12_join : ByteArray := prog_14_method_6_code
def yX12_join : MethodName := ⟨RX12, "join", "([II[II[II)V"⟩
abbrev cX12_blockSum : ByteArray := prog_14_method_7_code
def yX12_blockSum : MethodName := ⟨RX12, "blockSum", "(IIII[II)V"⟩
abbrev cX12_blockAt : ByteArray := prog_14_method_8_code
def yX12_blockAt : MethodName := ⟨RX12, "blockAt", "(II)I"⟩
abbrev cX12_lay : ByteArray := prog_14_method_9_code
def yX12_lay : MethodName := ⟨RX12, "lay", "(II[II)V"⟩
abbrev cX12_top : ByteArray := prog_14_method_10_code
def yX12_top : MethodName := ⟨RX12, "top", "([II)V"⟩
abbrev cX12_layLog : ByteArray := prog_14_method_11_code
def yX12_layLog : MethodName := ⟨RX12, "layLog", "(III)V"⟩
abbrev cX12_word : ByteArray := prog_14_method_12_code
def yX12_word : MethodName := ⟨RX12, "word", "(II)I"⟩
abbrev cX12_counts : ByteArray := prog_14_method_13_code
def yX12_counts : MethodName := ⟨RX12, "counts", "(III)Z"⟩
abbrev cX12_map : ByteArray := prog_14_method_14_code
def yX12_map : MethodName := ⟨RX12, "map", "(II)V"⟩
abbrev cX12_find : ByteArray := prog_14_method_15_code
def yX12_find : MethodName := ⟨RX12, "find", "(I)I"⟩
abbrev cX12_wayOf : ByteArray := prog_14_method_16_code
def yX12_wayOf : MethodName := ⟨RX12, "wayOf", "(I)V"⟩
abbrev cX12_isOne : ByteArray := prog_14_method_17_code
def yX12_isOne : MethodName := ⟨RX12, "isOne", "([III)Z"⟩
abbrev cX12_part : ByteArray := prog_14_method_18_code
def yX12_part : MethodName := ⟨RX12, "part", "(III)I"⟩
abbrev cX12_leaf : ByteArray := prog_14_method_19_code
def yX12_leaf : MethodName := ⟨RX12, "leaf", "(II)V"⟩
abbrev cX12_tree : ByteArray := prog_14_method_20_code
def yX12_tree : MethodName := ⟨RX12, "tree", "(III[II)V"⟩
abbrev cX12_mark : ByteArray := prog_14_method_21_code
def yX12_mark : MethodName := ⟨RX12, "mark", "(II[III)V"⟩
abbrev cX12_head : ByteArray := prog_14_method_22_code
def yX12_head : MethodName := ⟨RX12, "head", "(II[II)V"⟩
abbrev cX12_isLog : ByteArray := prog_14_method_23_code
def yX12_isLog : MethodName := ⟨RX12, "isLog", "(I)Z"⟩
abbrev cX12_many : ByteArray := prog_14_method_24_code
def yX12_many : MethodName := ⟨RX12, "many", "(I)I"⟩
abbrev cX12_isCount : ByteArray := prog_14_method_25_code
def yX12_isCount : MethodName := ⟨RX12, "isCount", "(II)Z"⟩
abbrev cX12_open : ByteArray := prog_14_method_26_code
def yX12_open : MethodName := ⟨RX12, "open", "(I)I"⟩
abbrev cX12_add : ByteArray := prog_14_method_27_code
def yX12_add : MethodName := ⟨RX12, "add", "(IIJ)I"⟩
abbrev cX12_fork : ByteArray := prog_14_method_28_code
def yX12_fork : MethodName := ⟨RX12, "fork", "(II)I"⟩
abbrev cX12_say : ByteArray := prog_14_method_29_code
def yX12_say : MethodName := ⟨RX12, "say", "(IIZ)Z"⟩
abbrev cX12_hide : ByteArray := prog_14_method_30_code
def yX12_hide : MethodName := ⟨RX12, "hide", "(II)Z"⟩
abbrev cX12_lag : ByteArray := prog_14_method_31_code
def yX12_lag : MethodName := ⟨RX12, "lag", "(II)Z"⟩
abbrev cX12_prune : ByteArray := prog_14_method_32_code
def yX12_prune : MethodName := ⟨RX12, "prune", "(II)I"⟩
abbrev cX12_keep : ByteArray := prog_14_method_33_code
def yX12_keep : MethodName := ⟨RX12, "keep", "(II)Z"⟩
abbrev cX12_count : ByteArray := prog_14_method_34_code
def yX12_count : MethodName := ⟨RX12, "count", "(II)I"⟩
abbrev cX12_latest : ByteArray := prog_14_method_35_code
def yX12_latest : MethodName := ⟨RX12, "latest", "(III)I"⟩
abbrev cX12_head_ : ByteArray := prog_14_method_36_code
def yX12_head_ : MethodName := ⟨RX12, "head", "(IIII)I"⟩
abbrev cX12_isSlot : ByteArray := prog_14_method_37_code
def yX12_isSlot : MethodName := ⟨RX12, "isSlot", "(I)Z"⟩
abbrev cX12_begin : ByteArray := prog_14_method_38_code
def yX12_begin : MethodName := ⟨RX12, "begin", "(IIIII)V"⟩
abbrev cX12_step : ByteArray := prog_14_method_39_code
def yX12_step : MethodName := ⟨RX12, "step", "(I[II)V"⟩
abbrev cX12_stepLog : ByteArray := prog_14_method_40_code
def yX12_stepLog : MethodName := ⟨RX12, "stepLog", "(IIII)V"⟩
abbrev cX12_within : ByteArray := prog_14_method_41_code
def yX12_within : MethodName := ⟨RX12, "within", "(IIII)I"⟩
abbrev cX12_grown : ByteArray := prog_14_method_42_code
def yX12_grown : MethodName := ⟨RX12, "grown", "(IIII)I"⟩
abbrev cX12_follow : ByteArray := prog_14_method_43_code
def yX12_follow : MethodName := ⟨RX12, "follow", "(II)V"⟩
abbrev cX12_held : ByteArray := prog_14_method_44_code
def yX12_held : MethodName := ⟨RX12, "held", "(IIII)I"⟩
abbrev cX12_absent : ByteArray := prog_14_method_45_code
def yX12_absent : MethodName := ⟨RX12, "absent", "(IIII)I"⟩
abbrev cX12_span : ByteArray := prog_14_method_46_code
def yX12_span : MethodName := ⟨RX12, "span", "(IIIII)I"⟩
abbrev cX12_drop : ByteArray := prog_14_method_47_code
def yX12_drop : MethodName := ⟨RX12, "drop", "(I)I"⟩
abbrev cX12_proof : ByteArray := prog_14_method_48_code
def yX12_proof : MethodName := ⟨RX12, "proof", "(II)I"⟩
abbrev cX12_isStep : ByteArray := prog_14_method_49_code
def yX12_isStep : MethodName := ⟨RX12, "isStep", "(III)Z"⟩
abbrev cX12_step_ : ByteArray := prog_14_method_50_code
def yX12_step_ : MethodName := ⟨RX12, "step", "(III)I"⟩
abbrev cX12_bend : ByteArray := prog_14_method_51_code
def yX12_bend : MethodName := ⟨RX12, "bend", "(IIII)Z"⟩
abbrev cX12_forge : ByteArray := prog_14_method_52_code
def yX12_forge : MethodName := ⟨RX12, "forge", "(IIIJ)Z"⟩
abbrev cX12_laySteps : ByteArray := prog_14_method_53_code
def yX12_laySteps : MethodName := ⟨RX12, "laySteps", "(III)V"⟩
abbrev cX12_areLike : ByteArray := prog_14_method_54_code
def yX12_areLike : MethodName := ⟨RX12, "areLike", "([II[II)Z"⟩
abbrev cX12_isSpanRight : ByteArray := prog_14_method_55_code
def yX12_isSpanRight : MethodName := ⟨RX12, "isSpanRight", "(I[II)Z"⟩
abbrev cX12_isGrownRight : ByteArray := prog_14_method_56_code
def yX12_isGrownRight : MethodName := ⟨RX12, "isGrownRight", "(I[II[II)Z"⟩
abbrev cX12_isWayRight : ByteArray := prog_14_method_57_code
def yX12_isWayRight : MethodName := ⟨RX12, "isWayRight", "(I[II)Z"⟩
abbrev cX12_isReader : ByteArray := prog_14_method_58_code
def yX12_isReader : MethodName := ⟨RX12, "isReader", "(I)Z"⟩
abbrev cX12_check : ByteArray := prog_14_method_59_code
def yX12_check : MethodName := ⟨RX12, "check", "(III)I"⟩
abbrev cX12_agree : ByteArray := prog_14_method_60_code
def yX12_agree : MethodName := ⟨RX12, "agree", "([II[II)Z"⟩
abbrev cX12_copy : ByteArray := prog_14_method_61_code
def yX12_copy : MethodName := ⟨RX12, "copy", "([II[IIZ)V"⟩
abbrev cX12_blame : ByteArray := prog_14_method_62_code
def yX12_blame : MethodName := ⟨RX12, "blame", "([II[II)V"⟩
abbrev cX12_take : ByteArray := prog_14_method_63_code
def yX12_take : MethodName := ⟨RX12, "take", "(III)I"⟩
abbrev cX12_talk : ByteArray := prog_14_method_64_code
def yX12_talk : MethodName := ⟨RX12, "talk", "(II)I"⟩
abbrev cX12_reader : ByteArray := prog_14_method_65_code
def yX12_reader : MethodName := ⟨RX12, "reader", "(II)I"⟩
abbrev cX12_blame_ : ByteArray := prog_14_method_66_code
def yX12_blame_ : MethodName := ⟨RX12, "blame", "(II)I"⟩
abbrev cX12_isMarked : ByteArray := prog_14_method_67_code
def yX12_isMarked : MethodName := ⟨RX12, "isMarked", "(I)Z"⟩
abbrev cX12_smear : ByteArray := prog_14_method_68_code
def yX12_smear : MethodName := ⟨RX12, "smear", "(III)Z"⟩
abbrev cX12_isWatcher : ByteArray := prog_14_method_69_code
def yX12_isWatcher : MethodName := ⟨RX12, "isWatcher", "(I)Z"⟩
abbrev cX12_watcher : ByteArray := prog_14_method_70_code
def yX12_watcher : MethodName := ⟨RX12, "watcher", "(IIII)Z"⟩
abbrev cX12_watch : ByteArray := prog_14_method_71_code
def yX12_watch : MethodName := ⟨RX12, "watch", "(I)I"⟩
abbrev cX12_watching : ByteArray := prog_14_method_72_code
def yX12_watching : MethodName := ⟨RX12, "watching", "(II)I"⟩
abbrev cX12_all : ByteArray := prog_14_method_73_code
def yX12_all : MethodName := ⟨RX12, "all", "(I)I"⟩
abbrev cX12_ints : ByteArray := prog_14_method_74_code
def yX12_ints : MethodName := ⟨RX12, "ints", "([I[I)V"⟩
abbrev cX12_longs : ByteArray := prog_14_method_75_code
def yX12_longs : MethodName := ⟨RX12, "longs", "([J[J)V"⟩
abbrev cX12_truths : ByteArray := prog_14_method_76_code
def yX12_truths : MethodName := ⟨RX12, "truths", "([Z[Z)V"⟩
abbrev cX12_image : ByteArray := prog_14_method_77_code
def yX12_image : MethodName := ⟨RX12, "image", "()Z"⟩
abbrev cX12_back : ByteArray := prog_14_method_78_code
def yX12_back : MethodName := ⟨RX12, "back", "()Z"⟩
def RJ9 : String := "java/lang/Math"
def TJ9 : u_T := fun k => match k with
  | _ => ("", "", "", false)
def tyJ9 : Nat → FieldType := fun k => match k with
  | _ => .int
theorem nmJ9 : ∀ a, a < 0 → ∀ b, b < 0 → a ≠ b → (TJ9 a).2.1 ≠ (TJ9 b).2.1 := by decide +kernel
abbrev cJ9_max_7cf53 : ByteArray := prog_16_method_65_code
def yJ9_max_7cf53 : MethodName := ⟨RJ9, "max", "(II)I"⟩
abbrev cJ9_min_7cf53 : ByteArray := prog_16_method_69_code
def yJ9_min_7cf53 : MethodName := ⟨RJ9, "min", "(II)I"⟩
def RJ10 : String := "java/lang/System"
def TJ10 : u_T := fun k => match k with
  | _ => ("", "", "", false)
def tyJ10 : Nat → FieldType := fun k => match k with
  | _ => .int
theorem nmJ10 : ∀ a, a < 0 → ∀ b, b < 0 → a ≠ b → (TJ10 a).2.1 ≠ (TJ10 b).2.1 := by decide +kernel
def RJ7 : String := "java/util/Arrays"
def TJ7 : u_T := fun k => match k with
  | _ => ("", "", "", false)
def tyJ7 : Nat → FieldType := fun k => match k with
  | _ => .int
theorem nmJ7 : ∀ a, a < 0 → ∀ b, b < 0 → a ≠ b → (TJ7 a).2.1 ≠ (TJ7 b).2.1 := by decide +kernel
abbrev cJ7_rangeCheck_23922 : ByteArray := prog_18_method_30_code
def yJ7_rangeCheck_23922 : MethodName := ⟨RJ7, "rangeCheck", "(III)V"⟩
abbrev cJ7_fill_53178 : ByteArray := prog_18_method_103_code
def yJ7_fill_53178 : MethodName := ⟨RJ7, "fill", "([II)V"⟩
abbrev cJ7_fill_fda19 : ByteArray := prog_18_method_104_code
def yJ7_fill_fda19 : MethodName := ⟨RJ7, "fill", "([IIII)V"⟩
abbrev cJ7_copyOf_59c91 : ByteArray := prog_18_method_123_code
def yJ7_copyOf_59c91 : MethodName := ⟨RJ7, "copyOf", "([II)[I"⟩
def RL : String := "GlassLogLaw"
abbrev cL_law : ByteArray := code
def yL_law : MethodName := ⟨RL, "law", "([I)Z"⟩
abbrev vwCl : List vw_C := [(RX0, TX0, 7), (RX1, TX1, 9), (RX2, TX2, 4), (RX3, TX3, 10), (RX4, TX4, 6), (RX5, TX5, 4), (RX6, TX6, 2), (RX7, TX7, 12), (RX8, TX8, 5), (RX9, TX9, 5), (RX10, TX10, 7), (RX11, TX11, 7), (RX12, TX12, 66)]
