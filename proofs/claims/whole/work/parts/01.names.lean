-- ===== PART A: goes FIRST, ahead of the names: the tables' words, and 'selects' of the private methods out of them =====
/-- a private method of a class that the tables say can be made, by its rows of tables_1 -/
def lw_okq (q : MethodName × Nat) : Prop := (q.1.cls ≠ "java/lang/invoke/MethodHandle" ∧ q.1.cls ≠ "java/lang/invoke/VarHandle") ∧ Cond.instantiable q.1.cls q.2 ∈ tables_1 ∧ Cond.privateMethod q.1 ∈ tables_1 ∧ Cond.instanceMethod q.1 ∈ tables_1
theorem lw_p0 : lw_okq (⟨"GraphNames", "at", "(I)LGraphNames$Graph;"⟩, 14) := ⟨⟨by decide +kernel, by decide +kernel⟩, List.mem_of_getElem? (i := 24) (by decide +kernel), List.mem_of_getElem? (i := 406) (by decide +kernel), List.mem_of_getElem? (i := 407) (by decide +kernel)⟩
theorem lw_p1 : lw_okq (⟨"GraphNames", "refused", "(I)I"⟩, 14) := ⟨⟨by decide +kernel, by decide +kernel⟩, List.mem_of_getElem? (i := 24) (by decide +kernel), List.mem_of_getElem? (i := 410) (by decide +kernel), List.mem_of_getElem? (i := 411) (by decide +kernel)⟩
theorem lw_p2 : lw_okq (⟨"GraphNames$Reader", "step", "()V"⟩, 10) := ⟨⟨by decide +kernel, by decide +kernel⟩, List.mem_of_getElem? (i := 38) (by decide +kernel), List.mem_of_getElem? (i := 418) (by decide +kernel), List.mem_of_getElem? (i := 419) (by decide +kernel)⟩
theorem lw_p3 : lw_okq (⟨"GraphNames$Reader", "readSize", "()Z"⟩, 10) := ⟨⟨by decide +kernel, by decide +kernel⟩, List.mem_of_getElem? (i := 38) (by decide +kernel), List.mem_of_getElem? (i := 425) (by decide +kernel), List.mem_of_getElem? (i := 426) (by decide +kernel)⟩
theorem lw_p4 : lw_okq (⟨"GraphNames$Reader", "isWord", "(Ljava/lang/String;)Z"⟩, 10) := ⟨⟨by decide +kernel, by decide +kernel⟩, List.mem_of_getElem? (i := 38) (by decide +kernel), List.mem_of_getElem? (i := 430) (by decide +kernel), List.mem_of_getElem? (i := 431) (by decide +kernel)⟩
theorem lw_p5 : lw_okq (⟨"GraphNames$Reader", "fails", "(I)Z"⟩, 10) := ⟨⟨by decide +kernel, by decide +kernel⟩, List.mem_of_getElem? (i := 38) (by decide +kernel), List.mem_of_getElem? (i := 482) (by decide +kernel), List.mem_of_getElem? (i := 483) (by decide +kernel)⟩
theorem lw_p6 : lw_okq (⟨"GraphNames$Reader", "digit", "()I"⟩, 10) := ⟨⟨by decide +kernel, by decide +kernel⟩, List.mem_of_getElem? (i := 38) (by decide +kernel), List.mem_of_getElem? (i := 486) (by decide +kernel), List.mem_of_getElem? (i := 487) (by decide +kernel)⟩
theorem lw_p7 : lw_okq (⟨"GraphNames$Reader", "readLines", "()V"⟩, 10) := ⟨⟨by decide +kernel, by decide +kernel⟩, List.mem_of_getElem? (i := 38) (by decide +kernel), List.mem_of_getElem? (i := 498) (by decide +kernel), List.mem_of_getElem? (i := 499) (by decide +kernel)⟩
theorem lw_p8 : lw_okq (⟨"GraphNames$Reader", "readLine", "()Z"⟩, 10) := ⟨⟨by decide +kernel, by decide +kernel⟩, List.mem_of_getElem? (i := 38) (by decide +kernel), List.mem_of_getElem? (i := 502) (by decide +kernel), List.mem_of_getElem? (i := 503) (by decide +kernel)⟩
theorem lw_p9 : lw_okq (⟨"GraphNames$Reader", "readPaint", "()Z"⟩, 10) := ⟨⟨by decide +kernel, by decide +kernel⟩, List.mem_of_getElem? (i := 38) (by decide +kernel), List.mem_of_getElem? (i := 507) (by decide +kernel), List.mem_of_getElem? (i := 508) (by decide +kernel)⟩
theorem lw_p10 : lw_okq (⟨"GraphNames$Reader", "isVertex", "()Z"⟩, 10) := ⟨⟨by decide +kernel, by decide +kernel⟩, List.mem_of_getElem? (i := 38) (by decide +kernel), List.mem_of_getElem? (i := 511) (by decide +kernel), List.mem_of_getElem? (i := 512) (by decide +kernel)⟩
theorem lw_p11 : lw_okq (⟨"GraphNames$Reader", "readLink", "()Z"⟩, 10) := ⟨⟨by decide +kernel, by decide +kernel⟩, List.mem_of_getElem? (i := 38) (by decide +kernel), List.mem_of_getElem? (i := 523) (by decide +kernel), List.mem_of_getElem? (i := 524) (by decide +kernel)⟩
theorem lw_p12 : lw_okq (⟨"GraphNames$Reader", "joins", "(II)Z"⟩, 10) := ⟨⟨by decide +kernel, by decide +kernel⟩, List.mem_of_getElem? (i := 38) (by decide +kernel), List.mem_of_getElem? (i := 527) (by decide +kernel), List.mem_of_getElem? (i := 528) (by decide +kernel)⟩
theorem lw_p13 : lw_okq (⟨"GraphNames$Reader", "readChain", "(IZ)Z"⟩, 10) := ⟨⟨by decide +kernel, by decide +kernel⟩, List.mem_of_getElem? (i := 38) (by decide +kernel), List.mem_of_getElem? (i := 533) (by decide +kernel), List.mem_of_getElem? (i := 534) (by decide +kernel)⟩
theorem lw_p14 : lw_okq (⟨"GraphNames", "answered", "(I)I"⟩, 14) := ⟨⟨by decide +kernel, by decide +kernel⟩, List.mem_of_getElem? (i := 24) (by decide +kernel), List.mem_of_getElem? (i := 553) (by decide +kernel), List.mem_of_getElem? (i := 554) (by decide +kernel)⟩
theorem lw_p15 : lw_okq (⟨"GraphNames$Cells", "signOf", "(LGraphNames$Graph;I)J"⟩, 7) := ⟨⟨by decide +kernel, by decide +kernel⟩, List.mem_of_getElem? (i := 140) (by decide +kernel), List.mem_of_getElem? (i := 617) (by decide +kernel), List.mem_of_getElem? (i := 618) (by decide +kernel)⟩
def lw_privs_1 : List (MethodName × Nat) := [(⟨"GraphNames", "at", "(I)LGraphNames$Graph;"⟩, 14), (⟨"GraphNames", "refused", "(I)I"⟩, 14), (⟨"GraphNames$Reader", "step", "()V"⟩, 10), (⟨"GraphNames$Reader", "readSize", "()Z"⟩, 10), (⟨"GraphNames$Reader", "isWord", "(Ljava/lang/String;)Z"⟩, 10), (⟨"GraphNames$Reader", "fails", "(I)Z"⟩, 10), (⟨"GraphNames$Reader", "digit", "()I"⟩, 10), (⟨"GraphNames$Reader", "readLines", "()V"⟩, 10), (⟨"GraphNames$Reader", "readLine", "()Z"⟩, 10), (⟨"GraphNames$Reader", "readPaint", "()Z"⟩, 10), (⟨"GraphNames$Reader", "isVertex", "()Z"⟩, 10), (⟨"GraphNames$Reader", "readLink", "()Z"⟩, 10), (⟨"GraphNames$Reader", "joins", "(II)Z"⟩, 10), (⟨"GraphNames$Reader", "readChain", "(IZ)Z"⟩, 10), (⟨"GraphNames", "answered", "(I)I"⟩, 14), (⟨"GraphNames$Cells", "signOf", "(LGraphNames$Graph;I)J"⟩, 7)]
theorem lw_r1 : ∀ q ∈ lw_privs_1, lw_okq q := List.forall_mem_cons.mpr ⟨lw_p0, List.forall_mem_cons.mpr ⟨lw_p1, List.forall_mem_cons.mpr ⟨lw_p2, List.forall_mem_cons.mpr ⟨lw_p3, List.forall_mem_cons.mpr ⟨lw_p4, List.forall_mem_cons.mpr ⟨lw_p5, List.forall_mem_cons.mpr ⟨lw_p6, List.forall_mem_cons.mpr ⟨lw_p7, List.forall_mem_cons.mpr ⟨lw_p8, List.forall_mem_cons.mpr ⟨lw_p9, List.forall_mem_cons.mpr ⟨lw_p10, List.forall_mem_cons.mpr ⟨lw_p11, List.forall_mem_cons.mpr ⟨lw_p12, List.forall_mem_cons.mpr ⟨lw_p13, List.forall_mem_cons.mpr ⟨lw_p14, List.forall_mem_cons.mpr ⟨lw_p15, fun _ h => absurd h List.not_mem_nil⟩⟩⟩⟩⟩⟩⟩⟩⟩⟩⟩⟩⟩⟩⟩⟩
theorem lw_p16 : lw_okq (⟨"GraphNames$Cells", "split", "(I)V"⟩, 7) := ⟨⟨by decide +kernel, by decide +kernel⟩, List.mem_of_getElem? (i := 140) (by decide +kernel), List.mem_of_getElem? (i := 622) (by decide +kernel), List.mem_of_getElem? (i := 623) (by decide +kernel)⟩
theorem lw_p17 : lw_okq (⟨"GraphNames$Search", "note", "(LGraphNames$Leaf;)V"⟩, 13) := ⟨⟨by decide +kernel, by decide +kernel⟩, List.mem_of_getElem? (i := 210) (by decide +kernel), List.mem_of_getElem? (i := 718) (by decide +kernel), List.mem_of_getElem? (i := 719) (by decide +kernel)⟩
theorem lw_p18 : lw_okq (⟨"GraphNames$Search", "spread", "(II)I"⟩, 13) := ⟨⟨by decide +kernel, by decide +kernel⟩, List.mem_of_getElem? (i := 210) (by decide +kernel), List.mem_of_getElem? (i := 735) (by decide +kernel), List.mem_of_getElem? (i := 736) (by decide +kernel)⟩
theorem lw_p19 : lw_okq (⟨"GraphNames$Search", "leavesAlone", "(II)Z"⟩, 13) := ⟨⟨by decide +kernel, by decide +kernel⟩, List.mem_of_getElem? (i := 210) (by decide +kernel), List.mem_of_getElem? (i := 739) (by decide +kernel), List.mem_of_getElem? (i := 740) (by decide +kernel)⟩
theorem lw_p20 : lw_okq (⟨"GraphNames$Search", "imageOf", "(II)I"⟩, 13) := ⟨⟨by decide +kernel, by decide +kernel⟩, List.mem_of_getElem? (i := 210) (by decide +kernel), List.mem_of_getElem? (i := 747) (by decide +kernel), List.mem_of_getElem? (i := 748) (by decide +kernel)⟩
theorem lw_p21 : lw_okq (⟨"GraphNames", "searchOf", "(I)LGraphNames$Search;"⟩, 14) := ⟨⟨by decide +kernel, by decide +kernel⟩, List.mem_of_getElem? (i := 24) (by decide +kernel), List.mem_of_getElem? (i := 773) (by decide +kernel), List.mem_of_getElem? (i := 774) (by decide +kernel)⟩
theorem lw_p22 : lw_okq (⟨"GraphNames$Pairing", "send", "(II)V"⟩, 8) := ⟨⟨by decide +kernel, by decide +kernel⟩, List.mem_of_getElem? (i := 174) (by decide +kernel), List.mem_of_getElem? (i := 807) (by decide +kernel), List.mem_of_getElem? (i := 808) (by decide +kernel)⟩
theorem lw_p23 : lw_okq (⟨"GraphNames$Pairing", "note", "()V"⟩, 8) := ⟨⟨by decide +kernel, by decide +kernel⟩, List.mem_of_getElem? (i := 174) (by decide +kernel), List.mem_of_getElem? (i := 811) (by decide +kernel), List.mem_of_getElem? (i := 812) (by decide +kernel)⟩
theorem lw_p24 : lw_okq (⟨"GraphNames$Pairing", "fits", "(II)Z"⟩, 8) := ⟨⟨by decide +kernel, by decide +kernel⟩, List.mem_of_getElem? (i := 174) (by decide +kernel), List.mem_of_getElem? (i := 817) (by decide +kernel), List.mem_of_getElem? (i := 818) (by decide +kernel)⟩
theorem lw_p25 : lw_okq (⟨"GraphNames$Pairing", "unlike", "(II)I"⟩, 8) := ⟨⟨by decide +kernel, by decide +kernel⟩, List.mem_of_getElem? (i := 174) (by decide +kernel), List.mem_of_getElem? (i := 821) (by decide +kernel), List.mem_of_getElem? (i := 822) (by decide +kernel)⟩
theorem lw_p26 : lw_okq (⟨"GraphNames$Pairing", "weigh", "(III)V"⟩, 8) := ⟨⟨by decide +kernel, by decide +kernel⟩, List.mem_of_getElem? (i := 174) (by decide +kernel), List.mem_of_getElem? (i := 861) (by decide +kernel), List.mem_of_getElem? (i := 862) (by decide +kernel)⟩
theorem lw_p27 : lw_okq (⟨"GraphNames", "toldApart", "(LGraphNames$Graph;LGraphNames$Graph;)I"⟩, 14) := ⟨⟨by decide +kernel, by decide +kernel⟩, List.mem_of_getElem? (i := 24) (by decide +kernel), List.mem_of_getElem? (i := 869) (by decide +kernel), List.mem_of_getElem? (i := 870) (by decide +kernel)⟩
theorem lw_p28 : lw_okq (⟨"GraphNames", "nameCards", "(LGraphNames$Graph;)V"⟩, 14) := ⟨⟨by decide +kernel, by decide +kernel⟩, List.mem_of_getElem? (i := 24) (by decide +kernel), List.mem_of_getElem? (i := 882) (by decide +kernel), List.mem_of_getElem? (i := 883) (by decide +kernel)⟩
theorem lw_p29 : lw_okq (⟨"GraphNames", "unlikeCards", "(I)I"⟩, 14) := ⟨⟨by decide +kernel, by decide +kernel⟩, List.mem_of_getElem? (i := 24) (by decide +kernel), List.mem_of_getElem? (i := 895) (by decide +kernel), List.mem_of_getElem? (i := 896) (by decide +kernel)⟩
theorem lw_p30 : lw_okq (⟨"GraphNames", "cardsLike", "(II)I"⟩, 14) := ⟨⟨by decide +kernel, by decide +kernel⟩, List.mem_of_getElem? (i := 24) (by decide +kernel), List.mem_of_getElem? (i := 899) (by decide +kernel), List.mem_of_getElem? (i := 900) (by decide +kernel)⟩
theorem lw_p31 : lw_okq (⟨"GraphNames", "cellsWith", "(LGraphNames$Graph;I)I"⟩, 14) := ⟨⟨by decide +kernel, by decide +kernel⟩, List.mem_of_getElem? (i := 24) (by decide +kernel), List.mem_of_getElem? (i := 915) (by decide +kernel), List.mem_of_getElem? (i := 916) (by decide +kernel)⟩
def lw_privs_2 : List (MethodName × Nat) := [(⟨"GraphNames$Cells", "split", "(I)V"⟩, 7), (⟨"GraphNames$Search", "note", "(LGraphNames$Leaf;)V"⟩, 13), (⟨"GraphNames$Search", "spread", "(II)I"⟩, 13), (⟨"GraphNames$Search", "leavesAlone", "(II)Z"⟩, 13), (⟨"GraphNames$Search", "imageOf", "(II)I"⟩, 13), (⟨"GraphNames", "searchOf", "(I)LGraphNames$Search;"⟩, 14), (⟨"GraphNames$Pairing", "send", "(II)V"⟩, 8), (⟨"GraphNames$Pairing", "note", "()V"⟩, 8), (⟨"GraphNames$Pairing", "fits", "(II)Z"⟩, 8), (⟨"GraphNames$Pairing", "unlike", "(II)I"⟩, 8), (⟨"GraphNames$Pairing", "weigh", "(III)V"⟩, 8), (⟨"GraphNames", "toldApart", "(LGraphNames$Graph;LGraphNames$Graph;)I"⟩, 14), (⟨"GraphNames", "nameCards", "(LGraphNames$Graph;)V"⟩, 14), (⟨"GraphNames", "unlikeCards", "(I)I"⟩, 14), (⟨"GraphNames", "cardsLike", "(II)I"⟩, 14), (⟨"GraphNames", "cellsWith", "(LGraphNames$Graph;I)I"⟩, 14)]
theorem lw_r2 : ∀ q ∈ lw_privs_2, lw_okq q := List.forall_mem_cons.mpr ⟨lw_p16, List.forall_mem_cons.mpr ⟨lw_p17, List.forall_mem_cons.mpr ⟨lw_p18, List.forall_mem_cons.mpr ⟨lw_p19, List.forall_mem_cons.mpr ⟨lw_p20, List.forall_mem_cons.mpr ⟨lw_p21, List.forall_mem_cons.mpr ⟨lw_p22, List.forall_mem_cons.mpr ⟨lw_p23, List.forall_mem_cons.mpr ⟨lw_p24, List.forall_mem_cons.mpr ⟨lw_p25, List.forall_mem_cons.mpr ⟨lw_p26, List.forall_mem_cons.mpr ⟨lw_p27, List.forall_mem_cons.mpr ⟨lw_p28, List.forall_mem_cons.mpr ⟨lw_p29, List.forall_mem_cons.mpr ⟨lw_p30, List.forall_mem_cons.mpr ⟨lw_p31, fun _ h => absurd h List.not_mem_nil⟩⟩⟩⟩⟩⟩⟩⟩⟩⟩⟩⟩⟩⟩⟩⟩
theorem lw_p32 : lw_okq (⟨"GraphNames", "fewestApart", "(LGraphNames$Graph;)I"⟩, 14) := ⟨⟨by decide +kernel, by decide +kernel⟩, List.mem_of_getElem? (i := 24) (by decide +kernel), List.mem_of_getElem? (i := 924) (by decide +kernel), List.mem_of_getElem? (i := 925) (by decide +kernel)⟩
theorem lw_p33 : lw_okq (⟨"java/lang/Throwable", "fillInStackTrace", "(I)Ljava/lang/Throwable;"⟩, 6) := ⟨⟨by decide +kernel, by decide +kernel⟩, List.mem_of_getElem? (i := 1042) (by decide +kernel), List.mem_of_getElem? (i := 1040) (by decide +kernel), List.mem_of_getElem? (i := 1041) (by decide +kernel)⟩
theorem lw_p34 : lw_okq (⟨"GraphNamesModel", "begins", "()V"⟩, 63) := ⟨⟨by decide +kernel, by decide +kernel⟩, List.mem_of_getElem? (i := 1067) (by decide +kernel), List.mem_of_getElem? (i := 1291) (by decide +kernel), List.mem_of_getElem? (i := 1292) (by decide +kernel)⟩
theorem lw_p35 : lw_okq (⟨"GraphNamesModel", "refuse", "(ZI)Z"⟩, 63) := ⟨⟨by decide +kernel, by decide +kernel⟩, List.mem_of_getElem? (i := 1067) (by decide +kernel), List.mem_of_getElem? (i := 1301) (by decide +kernel), List.mem_of_getElem? (i := 1302) (by decide +kernel)⟩
theorem lw_p36 : lw_okq (⟨"GraphNamesModel", "reads", "(I)V"⟩, 63) := ⟨⟨by decide +kernel, by decide +kernel⟩, List.mem_of_getElem? (i := 1067) (by decide +kernel), List.mem_of_getElem? (i := 1305) (by decide +kernel), List.mem_of_getElem? (i := 1306) (by decide +kernel)⟩
theorem lw_p37 : lw_okq (⟨"GraphNamesModel", "token", "()V"⟩, 63) := ⟨⟨by decide +kernel, by decide +kernel⟩, List.mem_of_getElem? (i := 1067) (by decide +kernel), List.mem_of_getElem? (i := 1309) (by decide +kernel), List.mem_of_getElem? (i := 1310) (by decide +kernel)⟩
theorem lw_p38 : lw_okq (⟨"GraphNamesModel", "seen", "(I)I"⟩, 63) := ⟨⟨by decide +kernel, by decide +kernel⟩, List.mem_of_getElem? (i := 1067) (by decide +kernel), List.mem_of_getElem? (i := 1313) (by decide +kernel), List.mem_of_getElem? (i := 1314) (by decide +kernel)⟩
theorem lw_p39 : lw_okq (⟨"GraphNamesModel", "isWord", "(I)Z"⟩, 63) := ⟨⟨by decide +kernel, by decide +kernel⟩, List.mem_of_getElem? (i := 1067) (by decide +kernel), List.mem_of_getElem? (i := 1323) (by decide +kernel), List.mem_of_getElem? (i := 1324) (by decide +kernel)⟩
theorem lw_p40 : lw_okq (⟨"GraphNamesModel", "fails", "(I)V"⟩, 63) := ⟨⟨by decide +kernel, by decide +kernel⟩, List.mem_of_getElem? (i := 1067) (by decide +kernel), List.mem_of_getElem? (i := 1327) (by decide +kernel), List.mem_of_getElem? (i := 1328) (by decide +kernel)⟩
theorem lw_p41 : lw_okq (⟨"GraphNamesModel", "goesOn", "()V"⟩, 63) := ⟨⟨by decide +kernel, by decide +kernel⟩, List.mem_of_getElem? (i := 1067) (by decide +kernel), List.mem_of_getElem? (i := 1331) (by decide +kernel), List.mem_of_getElem? (i := 1332) (by decide +kernel)⟩
theorem lw_p42 : lw_okq (⟨"GraphNamesModel", "takes", "(II)I"⟩, 63) := ⟨⟨by decide +kernel, by decide +kernel⟩, List.mem_of_getElem? (i := 1067) (by decide +kernel), List.mem_of_getElem? (i := 1335) (by decide +kernel), List.mem_of_getElem? (i := 1336) (by decide +kernel)⟩
theorem lw_p43 : lw_okq (⟨"GraphNamesModel", "hold", "(II)I"⟩, 63) := ⟨⟨by decide +kernel, by decide +kernel⟩, List.mem_of_getElem? (i := 1067) (by decide +kernel), List.mem_of_getElem? (i := 1339) (by decide +kernel), List.mem_of_getElem? (i := 1340) (by decide +kernel)⟩
theorem lw_p44 : lw_okq (⟨"GraphNamesModel", "line", "()V"⟩, 63) := ⟨⟨by decide +kernel, by decide +kernel⟩, List.mem_of_getElem? (i := 1067) (by decide +kernel), List.mem_of_getElem? (i := 1343) (by decide +kernel), List.mem_of_getElem? (i := 1344) (by decide +kernel)⟩
theorem lw_p45 : lw_okq (⟨"GraphNamesModel", "paintLine", "()V"⟩, 63) := ⟨⟨by decide +kernel, by decide +kernel⟩, List.mem_of_getElem? (i := 1067) (by decide +kernel), List.mem_of_getElem? (i := 1347) (by decide +kernel), List.mem_of_getElem? (i := 1348) (by decide +kernel)⟩
theorem lw_p46 : lw_okq (⟨"GraphNamesModel", "readVertex", "()I"⟩, 63) := ⟨⟨by decide +kernel, by decide +kernel⟩, List.mem_of_getElem? (i := 1067) (by decide +kernel), List.mem_of_getElem? (i := 1351) (by decide +kernel), List.mem_of_getElem? (i := 1352) (by decide +kernel)⟩
theorem lw_p47 : lw_okq (⟨"GraphNamesModel", "linkLine", "()V"⟩, 63) := ⟨⟨by decide +kernel, by decide +kernel⟩, List.mem_of_getElem? (i := 1067) (by decide +kernel), List.mem_of_getElem? (i := 1358) (by decide +kernel), List.mem_of_getElem? (i := 1359) (by decide +kernel)⟩
def lw_privs_3 : List (MethodName × Nat) := [(⟨"GraphNames", "fewestApart", "(LGraphNames$Graph;)I"⟩, 14), (⟨"java/lang/Throwable", "fillInStackTrace", "(I)Ljava/lang/Throwable;"⟩, 6), (⟨"GraphNamesModel", "begins", "()V"⟩, 63), (⟨"GraphNamesModel", "refuse", "(ZI)Z"⟩, 63), (⟨"GraphNamesModel", "reads", "(I)V"⟩, 63), (⟨"GraphNamesModel", "token", "()V"⟩, 63), (⟨"GraphNamesModel", "seen", "(I)I"⟩, 63), (⟨"GraphNamesModel", "isWord", "(I)Z"⟩, 63), (⟨"GraphNamesModel", "fails", "(I)V"⟩, 63), (⟨"GraphNamesModel", "goesOn", "()V"⟩, 63), (⟨"GraphNamesModel", "takes", "(II)I"⟩, 63), (⟨"GraphNamesModel", "hold", "(II)I"⟩, 63), (⟨"GraphNamesModel", "line", "()V"⟩, 63), (⟨"GraphNamesModel", "paintLine", "()V"⟩, 63), (⟨"GraphNamesModel", "readVertex", "()I"⟩, 63), (⟨"GraphNamesModel", "linkLine", "()V"⟩, 63)]
theorem lw_r3 : ∀ q ∈ lw_privs_3, lw_okq q := List.forall_mem_cons.mpr ⟨lw_p32, List.forall_mem_cons.mpr ⟨lw_p33, List.forall_mem_cons.mpr ⟨lw_p34, List.forall_mem_cons.mpr ⟨lw_p35, List.forall_mem_cons.mpr ⟨lw_p36, List.forall_mem_cons.mpr ⟨lw_p37, List.forall_mem_cons.mpr ⟨lw_p38, List.forall_mem_cons.mpr ⟨lw_p39, List.forall_mem_cons.mpr ⟨lw_p40, List.forall_mem_cons.mpr ⟨lw_p41, List.forall_mem_cons.mpr ⟨lw_p42, List.forall_mem_cons.mpr ⟨lw_p43, List.forall_mem_cons.mpr ⟨lw_p44, List.forall_mem_cons.mpr ⟨lw_p45, List.forall_mem_cons.mpr ⟨lw_p46, List.forall_mem_cons.mpr ⟨lw_p47, fun _ h => absurd h List.not_mem_nil⟩⟩⟩⟩⟩⟩⟩⟩⟩⟩⟩⟩⟩⟩⟩⟩
theorem lw_p48 : lw_okq (⟨"GraphNamesModel", "readLinked", "(I)I"⟩, 63) := ⟨⟨by decide +kernel, by decide +kernel⟩, List.mem_of_getElem? (i := 1067) (by decide +kernel), List.mem_of_getElem? (i := 1362) (by decide +kernel), List.mem_of_getElem? (i := 1363) (by decide +kernel)⟩
theorem lw_p49 : lw_okq (⟨"GraphNamesModel", "isRead", "(II)Z"⟩, 63) := ⟨⟨by decide +kernel, by decide +kernel⟩, List.mem_of_getElem? (i := 1067) (by decide +kernel), List.mem_of_getElem? (i := 1366) (by decide +kernel), List.mem_of_getElem? (i := 1367) (by decide +kernel)⟩
theorem lw_p50 : lw_okq (⟨"GraphNamesModel", "linksRead", "(III)V"⟩, 63) := ⟨⟨by decide +kernel, by decide +kernel⟩, List.mem_of_getElem? (i := 1067) (by decide +kernel), List.mem_of_getElem? (i := 1370) (by decide +kernel), List.mem_of_getElem? (i := 1371) (by decide +kernel)⟩
theorem lw_p51 : lw_okq (⟨"GraphNamesModel", "isDigit", "()Z"⟩, 63) := ⟨⟨by decide +kernel, by decide +kernel⟩, List.mem_of_getElem? (i := 1067) (by decide +kernel), List.mem_of_getElem? (i := 1374) (by decide +kernel), List.mem_of_getElem? (i := 1375) (by decide +kernel)⟩
theorem lw_p52 : lw_okq (⟨"GraphNamesModel", "pathLine", "(Z)V"⟩, 63) := ⟨⟨by decide +kernel, by decide +kernel⟩, List.mem_of_getElem? (i := 1067) (by decide +kernel), List.mem_of_getElem? (i := 1378) (by decide +kernel), List.mem_of_getElem? (i := 1379) (by decide +kernel)⟩
theorem lw_p53 : lw_okq (⟨"GraphNamesModel", "keeps", "()V"⟩, 63) := ⟨⟨by decide +kernel, by decide +kernel⟩, List.mem_of_getElem? (i := 1067) (by decide +kernel), List.mem_of_getElem? (i := 1382) (by decide +kernel), List.mem_of_getElem? (i := 1383) (by decide +kernel)⟩
theorem lw_p54 : lw_okq (⟨"GraphNamesModel", "manyOf", "(I)I"⟩, 63) := ⟨⟨by decide +kernel, by decide +kernel⟩, List.mem_of_getElem? (i := 1067) (by decide +kernel), List.mem_of_getElem? (i := 1390) (by decide +kernel), List.mem_of_getElem? (i := 1391) (by decide +kernel)⟩
theorem lw_p55 : lw_okq (⟨"GraphNamesModel", "linksOf", "(I)I"⟩, 63) := ⟨⟨by decide +kernel, by decide +kernel⟩, List.mem_of_getElem? (i := 1067) (by decide +kernel), List.mem_of_getElem? (i := 1394) (by decide +kernel), List.mem_of_getElem? (i := 1395) (by decide +kernel)⟩
theorem lw_p56 : lw_okq (⟨"GraphNamesModel", "rowOf", "(II)I"⟩, 63) := ⟨⟨by decide +kernel, by decide +kernel⟩, List.mem_of_getElem? (i := 1067) (by decide +kernel), List.mem_of_getElem? (i := 1398) (by decide +kernel), List.mem_of_getElem? (i := 1399) (by decide +kernel)⟩
theorem lw_p57 : lw_okq (⟨"GraphNamesModel", "kindOf", "(III)I"⟩, 63) := ⟨⟨by decide +kernel, by decide +kernel⟩, List.mem_of_getElem? (i := 1067) (by decide +kernel), List.mem_of_getElem? (i := 1402) (by decide +kernel), List.mem_of_getElem? (i := 1403) (by decide +kernel)⟩
theorem lw_p58 : lw_okq (⟨"GraphNamesModel", "coloursOf", "(I)I"⟩, 63) := ⟨⟨by decide +kernel, by decide +kernel⟩, List.mem_of_getElem? (i := 1067) (by decide +kernel), List.mem_of_getElem? (i := 1409) (by decide +kernel), List.mem_of_getElem? (i := 1410) (by decide +kernel)⟩
theorem lw_p59 : lw_okq (⟨"GraphNamesModel", "colourOf", "(II)I"⟩, 63) := ⟨⟨by decide +kernel, by decide +kernel⟩, List.mem_of_getElem? (i := 1067) (by decide +kernel), List.mem_of_getElem? (i := 1413) (by decide +kernel), List.mem_of_getElem? (i := 1414) (by decide +kernel)⟩
theorem lw_p60 : lw_okq (⟨"GraphNamesModel", "isVertex", "(II)Z"⟩, 63) := ⟨⟨by decide +kernel, by decide +kernel⟩, List.mem_of_getElem? (i := 1067) (by decide +kernel), List.mem_of_getElem? (i := 1421) (by decide +kernel), List.mem_of_getElem? (i := 1422) (by decide +kernel)⟩
theorem lw_p61 : lw_okq (⟨"GraphNamesModel", "lays", "(I)V"⟩, 63) := ⟨⟨by decide +kernel, by decide +kernel⟩, List.mem_of_getElem? (i := 1067) (by decide +kernel), List.mem_of_getElem? (i := 1441) (by decide +kernel), List.mem_of_getElem? (i := 1442) (by decide +kernel)⟩
theorem lw_p62 : lw_okq (⟨"GraphNamesModel", "laysColours", "()V"⟩, 63) := ⟨⟨by decide +kernel, by decide +kernel⟩, List.mem_of_getElem? (i := 1067) (by decide +kernel), List.mem_of_getElem? (i := 1445) (by decide +kernel), List.mem_of_getElem? (i := 1446) (by decide +kernel)⟩
theorem lw_p63 : lw_okq (⟨"GraphNamesModel", "refines", "()I"⟩, 63) := ⟨⟨by decide +kernel, by decide +kernel⟩, List.mem_of_getElem? (i := 1067) (by decide +kernel), List.mem_of_getElem? (i := 1449) (by decide +kernel), List.mem_of_getElem? (i := 1450) (by decide +kernel)⟩
def lw_privs_4 : List (MethodName × Nat) := [(⟨"GraphNamesModel", "readLinked", "(I)I"⟩, 63), (⟨"GraphNamesModel", "isRead", "(II)Z"⟩, 63), (⟨"GraphNamesModel", "linksRead", "(III)V"⟩, 63), (⟨"GraphNamesModel", "isDigit", "()Z"⟩, 63), (⟨"GraphNamesModel", "pathLine", "(Z)V"⟩, 63), (⟨"GraphNamesModel", "keeps", "()V"⟩, 63), (⟨"GraphNamesModel", "manyOf", "(I)I"⟩, 63), (⟨"GraphNamesModel", "linksOf", "(I)I"⟩, 63), (⟨"GraphNamesModel", "rowOf", "(II)I"⟩, 63), (⟨"GraphNamesModel", "kindOf", "(III)I"⟩, 63), (⟨"GraphNamesModel", "coloursOf", "(I)I"⟩, 63), (⟨"GraphNamesModel", "colourOf", "(II)I"⟩, 63), (⟨"GraphNamesModel", "isVertex", "(II)Z"⟩, 63), (⟨"GraphNamesModel", "lays", "(I)V"⟩, 63), (⟨"GraphNamesModel", "laysColours", "()V"⟩, 63), (⟨"GraphNamesModel", "refines", "()I"⟩, 63)]
theorem lw_r4 : ∀ q ∈ lw_privs_4, lw_okq q := List.forall_mem_cons.mpr ⟨lw_p48, List.forall_mem_cons.mpr ⟨lw_p49, List.forall_mem_cons.mpr ⟨lw_p50, List.forall_mem_cons.mpr ⟨lw_p51, List.forall_mem_cons.mpr ⟨lw_p52, List.forall_mem_cons.mpr ⟨lw_p53, List.forall_mem_cons.mpr ⟨lw_p54, List.forall_mem_cons.mpr ⟨lw_p55, List.forall_mem_cons.mpr ⟨lw_p56, List.forall_mem_cons.mpr ⟨lw_p57, List.forall_mem_cons.mpr ⟨lw_p58, List.forall_mem_cons.mpr ⟨lw_p59, List.forall_mem_cons.mpr ⟨lw_p60, List.forall_mem_cons.mpr ⟨lw_p61, List.forall_mem_cons.mpr ⟨lw_p62, List.forall_mem_cons.mpr ⟨lw_p63, fun _ h => absurd h List.not_mem_nil⟩⟩⟩⟩⟩⟩⟩⟩⟩⟩⟩⟩⟩⟩⟩⟩
theorem lw_p64 : lw_okq (⟨"GraphNamesModel", "goesRound", "()Z"⟩, 63) := ⟨⟨by decide +kernel, by decide +kernel⟩, List.mem_of_getElem? (i := 1067) (by decide +kernel), List.mem_of_getElem? (i := 1453) (by decide +kernel), List.mem_of_getElem? (i := 1454) (by decide +kernel)⟩
theorem lw_p65 : lw_okq (⟨"GraphNamesModel", "laysSigns", "()V"⟩, 63) := ⟨⟨by decide +kernel, by decide +kernel⟩, List.mem_of_getElem? (i := 1067) (by decide +kernel), List.mem_of_getElem? (i := 1457) (by decide +kernel), List.mem_of_getElem? (i := 1458) (by decide +kernel)⟩
theorem lw_p66 : lw_okq (⟨"GraphNamesModel", "rankOf", "(I)I"⟩, 63) := ⟨⟨by decide +kernel, by decide +kernel⟩, List.mem_of_getElem? (i := 1067) (by decide +kernel), List.mem_of_getElem? (i := 1461) (by decide +kernel), List.mem_of_getElem? (i := 1462) (by decide +kernel)⟩
theorem lw_p67 : lw_okq (⟨"GraphNamesModel", "targetCell", "()I"⟩, 63) := ⟨⟨by decide +kernel, by decide +kernel⟩, List.mem_of_getElem? (i := 1067) (by decide +kernel), List.mem_of_getElem? (i := 1468) (by decide +kernel), List.mem_of_getElem? (i := 1469) (by decide +kernel)⟩
theorem lw_p68 : lw_okq (⟨"GraphNamesModel", "sizeOf", "(I)I"⟩, 63) := ⟨⟨by decide +kernel, by decide +kernel⟩, List.mem_of_getElem? (i := 1067) (by decide +kernel), List.mem_of_getElem? (i := 1472) (by decide +kernel), List.mem_of_getElem? (i := 1473) (by decide +kernel)⟩
theorem lw_p69 : lw_okq (⟨"GraphNamesModel", "setOf", "(I)I"⟩, 63) := ⟨⟨by decide +kernel, by decide +kernel⟩, List.mem_of_getElem? (i := 1067) (by decide +kernel), List.mem_of_getElem? (i := 1476) (by decide +kernel), List.mem_of_getElem? (i := 1477) (by decide +kernel)⟩
theorem lw_p70 : lw_okq (⟨"GraphNamesModel", "starts", "()I"⟩, 63) := ⟨⟨by decide +kernel, by decide +kernel⟩, List.mem_of_getElem? (i := 1067) (by decide +kernel), List.mem_of_getElem? (i := 1484) (by decide +kernel), List.mem_of_getElem? (i := 1485) (by decide +kernel)⟩
theorem lw_p71 : lw_okq (⟨"GraphNamesModel", "setsApart", "(I)V"⟩, 63) := ⟨⟨by decide +kernel, by decide +kernel⟩, List.mem_of_getElem? (i := 1067) (by decide +kernel), List.mem_of_getElem? (i := 1492) (by decide +kernel), List.mem_of_getElem? (i := 1493) (by decide +kernel)⟩
theorem lw_p72 : lw_okq (⟨"GraphNamesModel", "markOf", "(I)I"⟩, 63) := ⟨⟨by decide +kernel, by decide +kernel⟩, List.mem_of_getElem? (i := 1067) (by decide +kernel), List.mem_of_getElem? (i := 1496) (by decide +kernel), List.mem_of_getElem? (i := 1497) (by decide +kernel)⟩
theorem lw_p73 : lw_okq (⟨"GraphNamesModel", "isSet", "(II)Z"⟩, 63) := ⟨⟨by decide +kernel, by decide +kernel⟩, List.mem_of_getElem? (i := 1067) (by decide +kernel), List.mem_of_getElem? (i := 1504) (by decide +kernel), List.mem_of_getElem? (i := 1505) (by decide +kernel)⟩
theorem lw_p74 : lw_okq (⟨"GraphNamesModel", "cellsBy", "(I)I"⟩, 63) := ⟨⟨by decide +kernel, by decide +kernel⟩, List.mem_of_getElem? (i := 1067) (by decide +kernel), List.mem_of_getElem? (i := 1508) (by decide +kernel), List.mem_of_getElem? (i := 1509) (by decide +kernel)⟩
theorem lw_p75 : lw_okq (⟨"GraphNamesModel", "walksAll", "()V"⟩, 63) := ⟨⟨by decide +kernel, by decide +kernel⟩, List.mem_of_getElem? (i := 1067) (by decide +kernel), List.mem_of_getElem? (i := 1520) (by decide +kernel), List.mem_of_getElem? (i := 1521) (by decide +kernel)⟩
theorem lw_p76 : lw_okq (⟨"GraphNamesModel", "walks", "(I)V"⟩, 63) := ⟨⟨by decide +kernel, by decide +kernel⟩, List.mem_of_getElem? (i := 1067) (by decide +kernel), List.mem_of_getElem? (i := 1524) (by decide +kernel), List.mem_of_getElem? (i := 1525) (by decide +kernel)⟩
theorem lw_p77 : lw_okq (⟨"GraphNamesModel", "laysCode", "()V"⟩, 63) := ⟨⟨by decide +kernel, by decide +kernel⟩, List.mem_of_getElem? (i := 1067) (by decide +kernel), List.mem_of_getElem? (i := 1528) (by decide +kernel), List.mem_of_getElem? (i := 1529) (by decide +kernel)⟩
theorem lw_p78 : lw_okq (⟨"GraphNamesModel", "vertexIn", "(I)I"⟩, 63) := ⟨⟨by decide +kernel, by decide +kernel⟩, List.mem_of_getElem? (i := 1067) (by decide +kernel), List.mem_of_getElem? (i := 1532) (by decide +kernel), List.mem_of_getElem? (i := 1533) (by decide +kernel)⟩
theorem lw_p79 : lw_okq (⟨"GraphNamesModel", "comparesBest", "(I)I"⟩, 63) := ⟨⟨by decide +kernel, by decide +kernel⟩, List.mem_of_getElem? (i := 1067) (by decide +kernel), List.mem_of_getElem? (i := 1536) (by decide +kernel), List.mem_of_getElem? (i := 1537) (by decide +kernel)⟩
def lw_privs_5 : List (MethodName × Nat) := [(⟨"GraphNamesModel", "goesRound", "()Z"⟩, 63), (⟨"GraphNamesModel", "laysSigns", "()V"⟩, 63), (⟨"GraphNamesModel", "rankOf", "(I)I"⟩, 63), (⟨"GraphNamesModel", "targetCell", "()I"⟩, 63), (⟨"GraphNamesModel", "sizeOf", "(I)I"⟩, 63), (⟨"GraphNamesModel", "setOf", "(I)I"⟩, 63), (⟨"GraphNamesModel", "starts", "()I"⟩, 63), (⟨"GraphNamesModel", "setsApart", "(I)V"⟩, 63), (⟨"GraphNamesModel", "markOf", "(I)I"⟩, 63), (⟨"GraphNamesModel", "isSet", "(II)Z"⟩, 63), (⟨"GraphNamesModel", "cellsBy", "(I)I"⟩, 63), (⟨"GraphNamesModel", "walksAll", "()V"⟩, 63), (⟨"GraphNamesModel", "walks", "(I)V"⟩, 63), (⟨"GraphNamesModel", "laysCode", "()V"⟩, 63), (⟨"GraphNamesModel", "vertexIn", "(I)I"⟩, 63), (⟨"GraphNamesModel", "comparesBest", "(I)I"⟩, 63)]
theorem lw_r5 : ∀ q ∈ lw_privs_5, lw_okq q := List.forall_mem_cons.mpr ⟨lw_p64, List.forall_mem_cons.mpr ⟨lw_p65, List.forall_mem_cons.mpr ⟨lw_p66, List.forall_mem_cons.mpr ⟨lw_p67, List.forall_mem_cons.mpr ⟨lw_p68, List.forall_mem_cons.mpr ⟨lw_p69, List.forall_mem_cons.mpr ⟨lw_p70, List.forall_mem_cons.mpr ⟨lw_p71, List.forall_mem_cons.mpr ⟨lw_p72, List.forall_mem_cons.mpr ⟨lw_p73, List.forall_mem_cons.mpr ⟨lw_p74, List.forall_mem_cons.mpr ⟨lw_p75, List.forall_mem_cons.mpr ⟨lw_p76, List.forall_mem_cons.mpr ⟨lw_p77, List.forall_mem_cons.mpr ⟨lw_p78, List.forall_mem_cons.mpr ⟨lw_p79, fun _ h => absurd h List.not_mem_nil⟩⟩⟩⟩⟩⟩⟩⟩⟩⟩⟩⟩⟩⟩⟩⟩
theorem lw_p80 : lw_okq (⟨"GraphNamesModel", "codeLong", "()I"⟩, 63) := ⟨⟨by decide +kernel, by decide +kernel⟩, List.mem_of_getElem? (i := 1067) (by decide +kernel), List.mem_of_getElem? (i := 1540) (by decide +kernel), List.mem_of_getElem? (i := 1541) (by decide +kernel)⟩
theorem lw_p81 : lw_okq (⟨"GraphNamesModel", "isBest", "(I)V"⟩, 63) := ⟨⟨by decide +kernel, by decide +kernel⟩, List.mem_of_getElem? (i := 1067) (by decide +kernel), List.mem_of_getElem? (i := 1544) (by decide +kernel), List.mem_of_getElem? (i := 1545) (by decide +kernel)⟩
theorem lw_p82 : lw_okq (⟨"GraphNamesModel", "saves", "(I)V"⟩, 63) := ⟨⟨by decide +kernel, by decide +kernel⟩, List.mem_of_getElem? (i := 1067) (by decide +kernel), List.mem_of_getElem? (i := 1548) (by decide +kernel), List.mem_of_getElem? (i := 1549) (by decide +kernel)⟩
theorem lw_p83 : lw_okq (⟨"GraphNamesModel", "comesBack", "(II)V"⟩, 63) := ⟨⟨by decide +kernel, by decide +kernel⟩, List.mem_of_getElem? (i := 1067) (by decide +kernel), List.mem_of_getElem? (i := 1552) (by decide +kernel), List.mem_of_getElem? (i := 1553) (by decide +kernel)⟩
theorem lw_p84 : lw_okq (⟨"GraphNamesModel", "keepsName", "(I)V"⟩, 63) := ⟨⟨by decide +kernel, by decide +kernel⟩, List.mem_of_getElem? (i := 1067) (by decide +kernel), List.mem_of_getElem? (i := 1568) (by decide +kernel), List.mem_of_getElem? (i := 1569) (by decide +kernel)⟩
theorem lw_p85 : lw_okq (⟨"GraphNamesModel", "searchesAll", "()V"⟩, 63) := ⟨⟨by decide +kernel, by decide +kernel⟩, List.mem_of_getElem? (i := 1067) (by decide +kernel), List.mem_of_getElem? (i := 1576) (by decide +kernel), List.mem_of_getElem? (i := 1577) (by decide +kernel)⟩
theorem lw_p86 : lw_okq (⟨"GraphNamesModel", "searches", "(I)V"⟩, 63) := ⟨⟨by decide +kernel, by decide +kernel⟩, List.mem_of_getElem? (i := 1067) (by decide +kernel), List.mem_of_getElem? (i := 1580) (by decide +kernel), List.mem_of_getElem? (i := 1581) (by decide +kernel)⟩
theorem lw_p87 : lw_okq (⟨"GraphNamesModel", "comesToLeaf", "(I)V"⟩, 63) := ⟨⟨by decide +kernel, by decide +kernel⟩, List.mem_of_getElem? (i := 1067) (by decide +kernel), List.mem_of_getElem? (i := 1584) (by decide +kernel), List.mem_of_getElem? (i := 1585) (by decide +kernel)⟩
theorem lw_p88 : lw_okq (⟨"GraphNamesModel", "isFirst", "(I)V"⟩, 63) := ⟨⟨by decide +kernel, by decide +kernel⟩, List.mem_of_getElem? (i := 1067) (by decide +kernel), List.mem_of_getElem? (i := 1588) (by decide +kernel), List.mem_of_getElem? (i := 1589) (by decide +kernel)⟩
theorem lw_p89 : lw_okq (⟨"GraphNamesModel", "isLikeFirst", "(I)Z"⟩, 63) := ⟨⟨by decide +kernel, by decide +kernel⟩, List.mem_of_getElem? (i := 1067) (by decide +kernel), List.mem_of_getElem? (i := 1592) (by decide +kernel), List.mem_of_getElem? (i := 1593) (by decide +kernel)⟩
theorem lw_p90 : lw_okq (⟨"GraphNamesModel", "generates", "([I)V"⟩, 63) := ⟨⟨by decide +kernel, by decide +kernel⟩, List.mem_of_getElem? (i := 1067) (by decide +kernel), List.mem_of_getElem? (i := 1596) (by decide +kernel), List.mem_of_getElem? (i := 1597) (by decide +kernel)⟩
theorem lw_p91 : lw_okq (⟨"GraphNamesModel", "comesTo", "(III)Z"⟩, 63) := ⟨⟨by decide +kernel, by decide +kernel⟩, List.mem_of_getElem? (i := 1067) (by decide +kernel), List.mem_of_getElem? (i := 1600) (by decide +kernel), List.mem_of_getElem? (i := 1601) (by decide +kernel)⟩
theorem lw_p92 : lw_okq (⟨"GraphNamesModel", "leavesPath", "(II)Z"⟩, 63) := ⟨⟨by decide +kernel, by decide +kernel⟩, List.mem_of_getElem? (i := 1067) (by decide +kernel), List.mem_of_getElem? (i := 1604) (by decide +kernel), List.mem_of_getElem? (i := 1605) (by decide +kernel)⟩
theorem lw_p93 : lw_okq (⟨"GraphNamesModel", "sentSet", "(II)I"⟩, 63) := ⟨⟨by decide +kernel, by decide +kernel⟩, List.mem_of_getElem? (i := 1067) (by decide +kernel), List.mem_of_getElem? (i := 1611) (by decide +kernel), List.mem_of_getElem? (i := 1612) (by decide +kernel)⟩
theorem lw_p94 : lw_okq (⟨"GraphNamesModel", "isCut", "(I)Z"⟩, 63) := ⟨⟨by decide +kernel, by decide +kernel⟩, List.mem_of_getElem? (i := 1067) (by decide +kernel), List.mem_of_getElem? (i := 1615) (by decide +kernel), List.mem_of_getElem? (i := 1616) (by decide +kernel)⟩
theorem lw_p95 : lw_okq (⟨"GraphNamesModel", "laysMaps", "(III)V"⟩, 63) := ⟨⟨by decide +kernel, by decide +kernel⟩, List.mem_of_getElem? (i := 1067) (by decide +kernel), List.mem_of_getElem? (i := 1627) (by decide +kernel), List.mem_of_getElem? (i := 1628) (by decide +kernel)⟩
def lw_privs_6 : List (MethodName × Nat) := [(⟨"GraphNamesModel", "codeLong", "()I"⟩, 63), (⟨"GraphNamesModel", "isBest", "(I)V"⟩, 63), (⟨"GraphNamesModel", "saves", "(I)V"⟩, 63), (⟨"GraphNamesModel", "comesBack", "(II)V"⟩, 63), (⟨"GraphNamesModel", "keepsName", "(I)V"⟩, 63), (⟨"GraphNamesModel", "searchesAll", "()V"⟩, 63), (⟨"GraphNamesModel", "searches", "(I)V"⟩, 63), (⟨"GraphNamesModel", "comesToLeaf", "(I)V"⟩, 63), (⟨"GraphNamesModel", "isFirst", "(I)V"⟩, 63), (⟨"GraphNamesModel", "isLikeFirst", "(I)Z"⟩, 63), (⟨"GraphNamesModel", "generates", "([I)V"⟩, 63), (⟨"GraphNamesModel", "comesTo", "(III)Z"⟩, 63), (⟨"GraphNamesModel", "leavesPath", "(II)Z"⟩, 63), (⟨"GraphNamesModel", "sentSet", "(II)I"⟩, 63), (⟨"GraphNamesModel", "isCut", "(I)Z"⟩, 63), (⟨"GraphNamesModel", "laysMaps", "(III)V"⟩, 63)]
theorem lw_r6 : ∀ q ∈ lw_privs_6, lw_okq q := List.forall_mem_cons.mpr ⟨lw_p80, List.forall_mem_cons.mpr ⟨lw_p81, List.forall_mem_cons.mpr ⟨lw_p82, List.forall_mem_cons.mpr ⟨lw_p83, List.forall_mem_cons.mpr ⟨lw_p84, List.forall_mem_cons.mpr ⟨lw_p85, List.forall_mem_cons.mpr ⟨lw_p86, List.forall_mem_cons.mpr ⟨lw_p87, List.forall_mem_cons.mpr ⟨lw_p88, List.forall_mem_cons.mpr ⟨lw_p89, List.forall_mem_cons.mpr ⟨lw_p90, List.forall_mem_cons.mpr ⟨lw_p91, List.forall_mem_cons.mpr ⟨lw_p92, List.forall_mem_cons.mpr ⟨lw_p93, List.forall_mem_cons.mpr ⟨lw_p94, List.forall_mem_cons.mpr ⟨lw_p95, fun _ h => absurd h List.not_mem_nil⟩⟩⟩⟩⟩⟩⟩⟩⟩⟩⟩⟩⟩⟩⟩⟩
theorem lw_p96 : lw_okq (⟨"GraphNamesModel", "laysOther", "()V"⟩, 63) := ⟨⟨by decide +kernel, by decide +kernel⟩, List.mem_of_getElem? (i := 1067) (by decide +kernel), List.mem_of_getElem? (i := 1631) (by decide +kernel), List.mem_of_getElem? (i := 1632) (by decide +kernel)⟩
theorem lw_p97 : lw_okq (⟨"GraphNamesModel", "mapsAll", "(I)V"⟩, 63) := ⟨⟨by decide +kernel, by decide +kernel⟩, List.mem_of_getElem? (i := 1067) (by decide +kernel), List.mem_of_getElem? (i := 1635) (by decide +kernel), List.mem_of_getElem? (i := 1636) (by decide +kernel)⟩
theorem lw_p98 : lw_okq (⟨"GraphNamesModel", "mapsFrom", "(I)V"⟩, 63) := ⟨⟨by decide +kernel, by decide +kernel⟩, List.mem_of_getElem? (i := 1067) (by decide +kernel), List.mem_of_getElem? (i := 1639) (by decide +kernel), List.mem_of_getElem? (i := 1640) (by decide +kernel)⟩
theorem lw_p99 : lw_okq (⟨"GraphNamesModel", "fits", "(II)Z"⟩, 63) := ⟨⟨by decide +kernel, by decide +kernel⟩, List.mem_of_getElem? (i := 1067) (by decide +kernel), List.mem_of_getElem? (i := 1643) (by decide +kernel), List.mem_of_getElem? (i := 1644) (by decide +kernel)⟩
theorem lw_p100 : lw_okq (⟨"GraphNamesModel", "changesFrom", "(III)V"⟩, 63) := ⟨⟨by decide +kernel, by decide +kernel⟩, List.mem_of_getElem? (i := 1067) (by decide +kernel), List.mem_of_getElem? (i := 1667) (by decide +kernel), List.mem_of_getElem? (i := 1668) (by decide +kernel)⟩
theorem lw_p101 : lw_okq (⟨"GraphNamesModel", "toldBy", "()I"⟩, 63) := ⟨⟨by decide +kernel, by decide +kernel⟩, List.mem_of_getElem? (i := 1067) (by decide +kernel), List.mem_of_getElem? (i := 1675) (by decide +kernel), List.mem_of_getElem? (i := 1676) (by decide +kernel)⟩
theorem lw_p102 : lw_okq (⟨"GraphNamesModel", "areColoursAlike", "()Z"⟩, 63) := ⟨⟨by decide +kernel, by decide +kernel⟩, List.mem_of_getElem? (i := 1067) (by decide +kernel), List.mem_of_getElem? (i := 1679) (by decide +kernel), List.mem_of_getElem? (i := 1680) (by decide +kernel)⟩
theorem lw_p103 : lw_okq (⟨"GraphNamesModel", "laysOtherSigns", "()V"⟩, 63) := ⟨⟨by decide +kernel, by decide +kernel⟩, List.mem_of_getElem? (i := 1067) (by decide +kernel), List.mem_of_getElem? (i := 1683) (by decide +kernel), List.mem_of_getElem? (i := 1684) (by decide +kernel)⟩
theorem lw_p104 : lw_okq (⟨"GraphNamesModel", "areSignsAlike", "()Z"⟩, 63) := ⟨⟨by decide +kernel, by decide +kernel⟩, List.mem_of_getElem? (i := 1067) (by decide +kernel), List.mem_of_getElem? (i := 1687) (by decide +kernel), List.mem_of_getElem? (i := 1688) (by decide +kernel)⟩
theorem lw_p105 : lw_okq (⟨"GraphNamesModel", "laysOtherCells", "()V"⟩, 63) := ⟨⟨by decide +kernel, by decide +kernel⟩, List.mem_of_getElem? (i := 1067) (by decide +kernel), List.mem_of_getElem? (i := 1691) (by decide +kernel), List.mem_of_getElem? (i := 1692) (by decide +kernel)⟩
theorem lw_p106 : lw_okq (⟨"GraphNamesModel", "laysCard", "(II)V"⟩, 63) := ⟨⟨by decide +kernel, by decide +kernel⟩, List.mem_of_getElem? (i := 1067) (by decide +kernel), List.mem_of_getElem? (i := 1699) (by decide +kernel), List.mem_of_getElem? (i := 1700) (by decide +kernel)⟩
theorem lw_p107 : lw_okq (⟨"GraphNamesModel", "laysTurned", "(I)V"⟩, 63) := ⟨⟨by decide +kernel, by decide +kernel⟩, List.mem_of_getElem? (i := 1067) (by decide +kernel), List.mem_of_getElem? (i := 1707) (by decide +kernel), List.mem_of_getElem? (i := 1708) (by decide +kernel)⟩
theorem lw_p108 : lw_okq (⟨"GraphNamesModel", "putsKind", "(IIII)V"⟩, 63) := ⟨⟨by decide +kernel, by decide +kernel⟩, List.mem_of_getElem? (i := 1067) (by decide +kernel), List.mem_of_getElem? (i := 1715) (by decide +kernel), List.mem_of_getElem? (i := 1716) (by decide +kernel)⟩
theorem lw_p109 : lw_okq (⟨"GraphNamesModel", "swaps", "(III)V"⟩, 63) := ⟨⟨by decide +kernel, by decide +kernel⟩, List.mem_of_getElem? (i := 1067) (by decide +kernel), List.mem_of_getElem? (i := 1727) (by decide +kernel), List.mem_of_getElem? (i := 1728) (by decide +kernel)⟩
theorem lw_p110 : lw_okq (⟨"GraphNamesModel", "draw", "(I)I"⟩, 63) := ⟨⟨by decide +kernel, by decide +kernel⟩, List.mem_of_getElem? (i := 1067) (by decide +kernel), List.mem_of_getElem? (i := 1736) (by decide +kernel), List.mem_of_getElem? (i := 1737) (by decide +kernel)⟩
theorem lw_p111 : lw_okq (⟨"GraphNamesModel", "becomesLaid", "(I)V"⟩, 63) := ⟨⟨by decide +kernel, by decide +kernel⟩, List.mem_of_getElem? (i := 1067) (by decide +kernel), List.mem_of_getElem? (i := 1750) (by decide +kernel), List.mem_of_getElem? (i := 1751) (by decide +kernel)⟩
def lw_privs_7 : List (MethodName × Nat) := [(⟨"GraphNamesModel", "laysOther", "()V"⟩, 63), (⟨"GraphNamesModel", "mapsAll", "(I)V"⟩, 63), (⟨"GraphNamesModel", "mapsFrom", "(I)V"⟩, 63), (⟨"GraphNamesModel", "fits", "(II)Z"⟩, 63), (⟨"GraphNamesModel", "changesFrom", "(III)V"⟩, 63), (⟨"GraphNamesModel", "toldBy", "()I"⟩, 63), (⟨"GraphNamesModel", "areColoursAlike", "()Z"⟩, 63), (⟨"GraphNamesModel", "laysOtherSigns", "()V"⟩, 63), (⟨"GraphNamesModel", "areSignsAlike", "()Z"⟩, 63), (⟨"GraphNamesModel", "laysOtherCells", "()V"⟩, 63), (⟨"GraphNamesModel", "laysCard", "(II)V"⟩, 63), (⟨"GraphNamesModel", "laysTurned", "(I)V"⟩, 63), (⟨"GraphNamesModel", "putsKind", "(IIII)V"⟩, 63), (⟨"GraphNamesModel", "swaps", "(III)V"⟩, 63), (⟨"GraphNamesModel", "draw", "(I)I"⟩, 63), (⟨"GraphNamesModel", "becomesLaid", "(I)V"⟩, 63)]
theorem lw_r7 : ∀ q ∈ lw_privs_7, lw_okq q := List.forall_mem_cons.mpr ⟨lw_p96, List.forall_mem_cons.mpr ⟨lw_p97, List.forall_mem_cons.mpr ⟨lw_p98, List.forall_mem_cons.mpr ⟨lw_p99, List.forall_mem_cons.mpr ⟨lw_p100, List.forall_mem_cons.mpr ⟨lw_p101, List.forall_mem_cons.mpr ⟨lw_p102, List.forall_mem_cons.mpr ⟨lw_p103, List.forall_mem_cons.mpr ⟨lw_p104, List.forall_mem_cons.mpr ⟨lw_p105, List.forall_mem_cons.mpr ⟨lw_p106, List.forall_mem_cons.mpr ⟨lw_p107, List.forall_mem_cons.mpr ⟨lw_p108, List.forall_mem_cons.mpr ⟨lw_p109, List.forall_mem_cons.mpr ⟨lw_p110, List.forall_mem_cons.mpr ⟨lw_p111, fun _ h => absurd h List.not_mem_nil⟩⟩⟩⟩⟩⟩⟩⟩⟩⟩⟩⟩⟩⟩⟩⟩
def lw_privs : List (MethodName × Nat) := lw_privs_1 ++ (lw_privs_2 ++ (lw_privs_3 ++ (lw_privs_4 ++ (lw_privs_5 ++ (lw_privs_6 ++ (lw_privs_7))))))
def lw_tbl : List Cond := k2_sels lw_privs ++ tables_1
theorem lw_privs_ok : ∀ q ∈ lw_privs, lw_okq q := by
  show ∀ q ∈ lw_privs_1 ++ (lw_privs_2 ++ (lw_privs_3 ++ (lw_privs_4 ++ (lw_privs_5 ++ (lw_privs_6 ++ (lw_privs_7)))))), lw_okq q
  exact List.forall_mem_append.mpr ⟨lw_r1, List.forall_mem_append.mpr ⟨lw_r2, List.forall_mem_append.mpr ⟨lw_r3, List.forall_mem_append.mpr ⟨lw_r4, List.forall_mem_append.mpr ⟨lw_r5, List.forall_mem_append.mpr ⟨lw_r6, lw_r7⟩⟩⟩⟩⟩⟩

def RX0 : String := "GraphNames$Cells"
def TX0 : u_T := fun k => match k with
  | 0 => ("GraphNames$Cells", "count", "I", false)
  | 1 => ("GraphNames$Cells", "rounds", "I", false)
  | 2 => ("GraphNames$Cells", "sets", "[I", true)
  | 3 => ("GraphNames$Cells", "signs", "[J", true)
  | 4 => ("GraphNames$Cells", "own", "[J", true)
  | 5 => ("GraphNames$Cells", "parts", "[I", true)
  | _ => ("GraphNames$Cells", "partCount", "I", false)
def tyX0 : Nat → FieldType := fun k => match k with
  | 0 => .int
  | 1 => .int
  | 2 => .array .int
  | 3 => .array .long
  | 4 => .array .long
  | 5 => .array .int
  | _ => .int
abbrev wsX00 : List Cond := u_ws RX0 TX0 7
theorem nmX0 : ∀ a, a < 7 → ∀ b, b < 7 → a ≠ b → (TX0 a).2.1 ≠ (TX0 b).2.1 := by decide +kernel
theorem tyX0_ok : ∀ k, k < 7 → parseFieldDescriptor (TX0 k).2.2.1 = some (tyX0 k) := by decide +kernel
abbrev cX0_init : ByteArray := prog_2_method_1_code
def yX0_init : MethodName := ⟨RX0, "<init>", "()V"⟩
abbrev cX0_begin : ByteArray := prog_2_method_2_code
def yX0_begin : MethodName := ⟨RX0, "begin", "(LGraphNames$Graph;)V"⟩
abbrev cX0_byColours : ByteArray := prog_2_method_3_code
def yX0_byColours : MethodName := ⟨RX0, "byColours", "(LGraphNames$Graph;)V"⟩
abbrev cX0_refine : ByteArray := prog_2_method_4_code
def yX0_refine : MethodName := ⟨RX0, "refine", "(LGraphNames$Graph;)V"⟩
abbrev cX0_divide : ByteArray := prog_2_method_5_code
def yX0_divide : MethodName := ⟨RX0, "divide", "(LGraphNames$Graph;)Z"⟩
abbrev cX0_signOf : ByteArray := prog_2_method_6_code
def yX0_signOf : MethodName := ⟨RX0, "signOf", "(LGraphNames$Graph;I)J"⟩
abbrev cX0_split : ByteArray := prog_2_method_7_code
def yX0_split : MethodName := ⟨RX0, "split", "(I)V"⟩
abbrev cX0_putAhead : ByteArray := prog_2_method_8_code
def yX0_putAhead : MethodName := ⟨RX0, "putAhead", "(I)V"⟩
abbrev cX0_target : ByteArray := prog_2_method_9_code
def yX0_target : MethodName := ⟨RX0, "target", "()I"⟩
abbrev cX0_mark : ByteArray := prog_2_method_10_code
def yX0_mark : MethodName := ⟨RX0, "mark", "()I"⟩
abbrev cX0_take : ByteArray := prog_2_method_11_code
def yX0_take : MethodName := ⟨RX0, "take", "(LGraphNames$Cells;)V"⟩
abbrev cX0_alike : ByteArray := prog_2_method_12_code
def yX0_alike : MethodName := ⟨RX0, "alike", "(LGraphNames$Cells;)Z"⟩
def RX1 : String := "GraphNames$Graph"
def TX1 : u_T := fun k => match k with
  | 0 => ("GraphNames$Graph", "count", "I", false)
  | 1 => ("GraphNames$Graph", "colours", "[I", true)
  | 2 => ("GraphNames$Graph", "kinds", "[[I", true)
  | _ => ("GraphNames$Graph", "linked", "[[I", true)
def tyX1 : Nat → FieldType := fun k => match k with
  | 0 => .int
  | 1 => .array .int
  | 2 => .array (.array .int)
  | _ => .array (.array .int)
abbrev wsX10 : List Cond := u_ws RX1 TX1 4
theorem nmX1 : ∀ a, a < 4 → ∀ b, b < 4 → a ≠ b → (TX1 a).2.1 ≠ (TX1 b).2.1 := by decide +kernel
theorem tyX1_ok : ∀ k, k < 4 → parseFieldDescriptor (TX1 k).2.2.1 = some (tyX1 k) := by decide +kernel
abbrev cX1_init : ByteArray := prog_3_method_1_code
def yX1_init : MethodName := ⟨RX1, "<init>", "()V"⟩
abbrev cX1_has : ByteArray := prog_3_method_2_code
def yX1_has : MethodName := ⟨RX1, "has", "(I)Z"⟩
abbrev cX1_hasAll : ByteArray := prog_3_method_3_code
def yX1_hasAll : MethodName := ⟨RX1, "hasAll", "(I)Z"⟩
abbrev cX1_links : ByteArray := prog_3_method_4_code
def yX1_links : MethodName := ⟨RX1, "links", "()I"⟩
abbrev cX1_mostLinks : ByteArray := prog_3_method_5_code
def yX1_mostLinks : MethodName := ⟨RX1, "mostLinks", "()I"⟩
abbrev cX1_join : ByteArray := prog_3_method_6_code
def yX1_join : MethodName := ⟨RX1, "join", "(III)V"⟩
abbrev cX1_exchange : ByteArray := prog_3_method_7_code
def yX1_exchange : MethodName := ⟨RX1, "exchange", "(II)V"⟩
abbrev cX1_mix : ByteArray := prog_3_method_8_code
def yX1_mix : MethodName := ⟨RX1, "mix", "(I)I"⟩
abbrev cX1_turnKinds : ByteArray := prog_3_method_9_code
def yX1_turnKinds : MethodName := ⟨RX1, "turnKinds", "()V"⟩
abbrev cX1_lose : ByteArray := prog_3_method_10_code
def yX1_lose : MethodName := ⟨RX1, "lose", "(I)V"⟩
abbrev cX1_gain : ByteArray := prog_3_method_11_code
def yX1_gain : MethodName := ⟨RX1, "gain", "(II)V"⟩
abbrev cX1_empty : ByteArray := prog_3_method_12_code
def yX1_empty : MethodName := ⟨RX1, "empty", "(I)V"⟩
abbrev cX1_take : ByteArray := prog_3_method_13_code
def yX1_take : MethodName := ⟨RX1, "take", "(LGraphNames$Graph;)V"⟩
abbrev cX1_same : ByteArray := prog_3_method_14_code
def yX1_same : MethodName := ⟨RX1, "same", "(LGraphNames$Graph;)Z"⟩
def RX2 : String := "GraphNames$Leaf"
def TX2 : u_T := fun k => match k with
  | 0 => ("GraphNames$Leaf", "depth", "I", false)
  | 1 => ("GraphNames$Leaf", "length", "I", false)
  | 2 => ("GraphNames$Leaf", "marks", "[I", true)
  | 3 => ("GraphNames$Leaf", "code", "[I", true)
  | _ => ("GraphNames$Leaf", "order", "[I", true)
def tyX2 : Nat → FieldType := fun k => match k with
  | 0 => .int
  | 1 => .int
  | 2 => .array .int
  | 3 => .array .int
  | _ => .array .int
abbrev wsX20 : List Cond := u_ws RX2 TX2 5
theorem nmX2 : ∀ a, a < 5 → ∀ b, b < 5 → a ≠ b → (TX2 a).2.1 ≠ (TX2 b).2.1 := by decide +kernel
theorem tyX2_ok : ∀ k, k < 5 → parseFieldDescriptor (TX2 k).2.2.1 = some (tyX2 k) := by decide +kernel
abbrev cX2_init : ByteArray := prog_4_method_1_code
def yX2_init : MethodName := ⟨RX2, "<init>", "()V"⟩
abbrev cX2_write : ByteArray := prog_4_method_2_code
def yX2_write : MethodName := ⟨RX2, "write", "(LGraphNames$Graph;LGraphNames$Cells;I)V"⟩
abbrev cX2_compare : ByteArray := prog_4_method_3_code
def yX2_compare : MethodName := ⟨RX2, "compare", "(LGraphNames$Leaf;)I"⟩
abbrev cX2_compareCodes : ByteArray := prog_4_method_4_code
def yX2_compareCodes : MethodName := ⟨RX2, "compareCodes", "(LGraphNames$Leaf;)I"⟩
abbrev cX2_take : ByteArray := prog_4_method_5_code
def yX2_take : MethodName := ⟨RX2, "take", "(LGraphNames$Leaf;)V"⟩
def RX3 : String := "GraphNames$Pairing"
def TX3 : u_T := fun k => match k with
  | 0 => ("GraphNames$Pairing", "ways", "I", false)
  | 1 => ("GraphNames$Pairing", "least", "[I", true)
  | 2 => ("GraphNames$Pairing", "reached", "[I", true)
  | 3 => ("GraphNames$Pairing", "from", "LGraphNames$Graph;", true)
  | 4 => ("GraphNames$Pairing", "to", "LGraphNames$Graph;", true)
  | 5 => ("GraphNames$Pairing", "goes", "[I", true)
  | 6 => ("GraphNames$Pairing", "stay", "I", false)
  | _ => ("GraphNames$Pairing", "fewest", "I", false)
def tyX3 : Nat → FieldType := fun k => match k with
  | 0 => .int
  | 1 => .array .int
  | 2 => .array .int
  | 3 => .object "GraphNames$Graph"
  | 4 => .object "GraphNames$Graph"
  | 5 => .array .int
  | 6 => .int
  | _ => .int
abbrev wsX30 : List Cond := u_ws RX3 TX3 8
theorem nmX3 : ∀ a, a < 8 → ∀ b, b < 8 → a ≠ b → (TX3 a).2.1 ≠ (TX3 b).2.1 := by decide +kernel
theorem tyX3_ok : ∀ k, k < 8 → parseFieldDescriptor (TX3 k).2.2.1 = some (tyX3 k) := by decide +kernel
abbrev cX3_init : ByteArray := prog_5_method_1_code
def yX3_init : MethodName := ⟨RX3, "<init>", "()V"⟩
abbrev cX3_match : ByteArray := prog_5_method_2_code
def yX3_match : MethodName := ⟨RX3, "match", "(LGraphNames$Graph;LGraphNames$Graph;I)V"⟩
abbrev cX3_send : ByteArray := prog_5_method_3_code
def yX3_send : MethodName := ⟨RX3, "send", "(II)V"⟩
abbrev cX3_fits : ByteArray := prog_5_method_4_code
def yX3_fits : MethodName := ⟨RX3, "fits", "(II)Z"⟩
abbrev cX3_unlike : ByteArray := prog_5_method_5_code
def yX3_unlike : MethodName := ⟨RX3, "unlike", "(II)I"⟩
abbrev cX3_note : ByteArray := prog_5_method_6_code
def yX3_note : MethodName := ⟨RX3, "note", "()V"⟩
abbrev cX3_orbits : ByteArray := prog_5_method_7_code
def yX3_orbits : MethodName := ⟨RX3, "orbits", "()I"⟩
abbrev cX3_unmoved : ByteArray := prog_5_method_8_code
def yX3_unmoved : MethodName := ⟨RX3, "unmoved", "()I"⟩
abbrev cX3_leastChanges : ByteArray := prog_5_method_9_code
def yX3_leastChanges : MethodName := ⟨RX3, "leastChanges", "(LGraphNames$Graph;LGraphNames$Graph;)I"⟩
abbrev cX3_weigh : ByteArray := prog_5_method_10_code
def yX3_weigh : MethodName := ⟨RX3, "weigh", "(III)V"⟩
def RX4 : String := "GraphNames$Past"
def TX4 : u_T := fun k => match k with
  | 0 => ("GraphNames$Past", "count", "I", false)
  | 1 => ("GraphNames$Past", "next", "I", false)
  | 2 => ("GraphNames$Past", "which", "[I", true)
  | _ => ("GraphNames$Past", "were", "[LGraphNames$Graph;", true)
def tyX4 : Nat → FieldType := fun k => match k with
  | 0 => .int
  | 1 => .int
  | 2 => .array .int
  | _ => .array (.object "GraphNames$Graph")
abbrev wsX40 : List Cond := u_ws RX4 TX4 4
theorem nmX4 : ∀ a, a < 4 → ∀ b, b < 4 → a ≠ b → (TX4 a).2.1 ≠ (TX4 b).2.1 := by decide +kernel
theorem tyX4_ok : ∀ k, k < 4 → parseFieldDescriptor (TX4 k).2.2.1 = some (tyX4 k) := by decide +kernel
abbrev cX4_init : ByteArray := prog_6_method_1_code
def yX4_init : MethodName := ⟨RX4, "<init>", "()V"⟩
abbrev cX4_keep : ByteArray := prog_6_method_2_code
def yX4_keep : MethodName := ⟨RX4, "keep", "(ILGraphNames$Graph;)V"⟩
abbrev cX4_bringBack : ByteArray := prog_6_method_3_code
def yX4_bringBack : MethodName := ⟨RX4, "bringBack", "([LGraphNames$Graph;)V"⟩
def RX5 : String := "GraphNames$Reader"
def TX5 : u_T := fun k => match k with
  | 0 => ("GraphNames$Reader", "held", "I", false)
  | 1 => ("GraphNames$Reader", "fault", "I", false)
  | 2 => ("GraphNames$Reader", "place", "I", false)
  | 3 => ("GraphNames$Reader", "graph", "LGraphNames$Graph;", true)
  | 4 => ("GraphNames$Reader", "tape", "[I", true)
  | 5 => ("GraphNames$Reader", "end", "I", false)
  | 6 => ("GraphNames$Reader", "token", "I", false)
  | 7 => ("GraphNames$Reader", "at", "I", false)
  | 8 => ("GraphNames$Reader", "next", "I", false)
  | _ => ("GraphNames$Reader", "painted", "I", false)
def tyX5 : Nat → FieldType := fun k => match k with
  | 0 => .int
  | 1 => .int
  | 2 => .int
  | 3 => .object "GraphNames$Graph"
  | 4 => .array .int
  | 5 => .int
  | 6 => .int
  | 7 => .int
  | 8 => .int
  | _ => .int
abbrev wsX50 : List Cond := u_ws RX5 TX5 10
theorem nmX5 : ∀ a, a < 10 → ∀ b, b < 10 → a ≠ b → (TX5 a).2.1 ≠ (TX5 b).2.1 := by decide +kernel
theorem tyX5_ok : ∀ k, k < 10 → parseFieldDescriptor (TX5 k).2.2.1 = some (tyX5 k) := by decide +kernel
abbrev cX5_init : ByteArray := prog_7_method_1_code
def yX5_init : MethodName := ⟨RX5, "<init>", "()V"⟩
abbrev cX5_put : ByteArray := prog_7_method_2_code
def yX5_put : MethodName := ⟨RX5, "put", "(I)V"⟩
abbrev cX5_read : ByteArray := prog_7_method_3_code
def yX5_read : MethodName := ⟨RX5, "read", "(I)V"⟩
abbrev cX5_readSize : ByteArray := prog_7_method_4_code
def yX5_readSize : MethodName := ⟨RX5, "readSize", "()Z"⟩
abbrev cX5_readLines : ByteArray := prog_7_method_5_code
def yX5_readLines : MethodName := ⟨RX5, "readLines", "()V"⟩
abbrev cX5_readLine : ByteArray := prog_7_method_6_code
def yX5_readLine : MethodName := ⟨RX5, "readLine", "()Z"⟩
abbrev cX5_readPaint : ByteArray := prog_7_method_7_code
def yX5_readPaint : MethodName := ⟨RX5, "readPaint", "()Z"⟩
abbrev cX5_readLink : ByteArray := prog_7_method_8_code
def yX5_readLink : MethodName := ⟨RX5, "readLink", "()Z"⟩
abbrev cX5_readChain : ByteArray := prog_7_method_9_code
def yX5_readChain : MethodName := ⟨RX5, "readChain", "(IZ)Z"⟩
abbrev cX5_joins : ByteArray := prog_7_method_10_code
def yX5_joins : MethodName := ⟨RX5, "joins", "(II)Z"⟩
abbrev cX5_fails : ByteArray := prog_7_method_11_code
def yX5_fails : MethodName := ⟨RX5, "fails", "(I)Z"⟩
abbrev cX5_isVertex : ByteArray := prog_7_method_12_code
def yX5_isVertex : MethodName := ⟨RX5, "isVertex", "()Z"⟩
abbrev cX5_digit : ByteArray := prog_7_method_13_code
def yX5_digit : MethodName := ⟨RX5, "digit", "()I"⟩
abbrev cX5_isWord : ByteArray := prog_7_method_14_code
def yX5_isWord : MethodName := ⟨RX5, "isWord", "(Ljava/lang/String;)Z"⟩
abbrev cX5_step : ByteArray := prog_7_method_15_code
def yX5_step : MethodName := ⟨RX5, "step", "()V"⟩
abbrev cX5_isLetter : ByteArray := prog_7_method_16_code
def yX5_isLetter : MethodName := ⟨RX5, "isLetter", "(I)Z"⟩
def RX6 : String := "GraphNames$Search"
def TX6 : u_T := fun k => match k with
  | 0 => ("GraphNames$Walk", "of", "LGraphNames$Graph;", true)
  | 1 => ("GraphNames$Walk", "way", "[LGraphNames$Cells;", true)
  | 2 => ("GraphNames$Walk", "here", "LGraphNames$Leaf;", true)
  | 3 => ("GraphNames$Walk", "best", "LGraphNames$Leaf;", true)
  | 4 => ("GraphNames$Walk", "nodes", "I", false)
  | 5 => ("GraphNames$Walk", "leafs", "I", false)
  | 6 => ("GraphNames$Walk", "cut", "I", false)
  | 7 => ("GraphNames$Walk", "skipped", "I", false)
  | 8 => ("GraphNames$Walk", "seen", "Z", false)
  | 9 => ("GraphNames$Search", "found", "I", false)
  | 10 => ("GraphNames$Search", "bests", "I", false)
  | 11 => ("GraphNames$Search", "generators", "[I", true)
  | _ => ("GraphNames$Search", "first", "LGraphNames$Leaf;", true)
def tyX6 : Nat → FieldType := fun k => match k with
  | 0 => .object "GraphNames$Graph"
  | 1 => .array (.object "GraphNames$Cells")
  | 2 => .object "GraphNames$Leaf"
  | 3 => .object "GraphNames$Leaf"
  | 4 => .int
  | 5 => .int
  | 6 => .int
  | 7 => .int
  | 8 => .boolean
  | 9 => .int
  | 10 => .int
  | 11 => .array .int
  | _ => .object "GraphNames$Leaf"
abbrev wsX60 : List Cond := u_ws RX6 TX6 13
theorem nmX6 : ∀ a, a < 13 → ∀ b, b < 13 → a ≠ b → (TX6 a).2.1 ≠ (TX6 b).2.1 := by decide +kernel
theorem tyX6_ok : ∀ k, k < 13 → parseFieldDescriptor (TX6 k).2.2.1 = some (tyX6 k) := by decide +kernel
abbrev cX6_init : ByteArray := prog_8_method_1_code
def yX6_init : MethodName := ⟨RX6, "<init>", "()V"⟩
abbrev cX6_forget : ByteArray := prog_8_method_2_code
def yX6_forget : MethodName := ⟨RX6, "forget", "()V"⟩
abbrev cX6_skips : ByteArray := prog_8_method_3_code
def yX6_skips : MethodName := ⟨RX6, "skips", "(III)Z"⟩
abbrev cX6_spread : ByteArray := prog_8_method_4_code
def yX6_spread : MethodName := ⟨RX6, "spread", "(II)I"⟩
abbrev cX6_leavesAlone : ByteArray := prog_8_method_5_code
def yX6_leavesAlone : MethodName := ⟨RX6, "leavesAlone", "(II)Z"⟩
abbrev cX6_imageOf : ByteArray := prog_8_method_6_code
def yX6_imageOf : MethodName := ⟨RX6, "imageOf", "(II)I"⟩
abbrev cX6_cuts : ByteArray := prog_8_method_7_code
def yX6_cuts : MethodName := ⟨RX6, "cuts", "(I)Z"⟩
abbrev cX6_reach : ByteArray := prog_8_method_8_code
def yX6_reach : MethodName := ⟨RX6, "reach", "()V"⟩
abbrev cX6_note : ByteArray := prog_8_method_9_code
def yX6_note : MethodName := ⟨RX6, "note", "(LGraphNames$Leaf;)V"⟩
def RX7 : String := "GraphNames$Tree"
def TX7 : u_T := fun k => match k with
  | 0 => ("GraphNames$Walk", "of", "LGraphNames$Graph;", true)
  | 1 => ("GraphNames$Walk", "way", "[LGraphNames$Cells;", true)
  | 2 => ("GraphNames$Walk", "here", "LGraphNames$Leaf;", true)
  | 3 => ("GraphNames$Walk", "best", "LGraphNames$Leaf;", true)
  | 4 => ("GraphNames$Walk", "nodes", "I", false)
  | 5 => ("GraphNames$Walk", "leafs", "I", false)
  | 6 => ("GraphNames$Walk", "cut", "I", false)
  | 7 => ("GraphNames$Walk", "skipped", "I", false)
  | 8 => ("GraphNames$Walk", "seen", "Z", false)
  | 9 => ("GraphNames$Tree", "deepest", "I", false)
  | _ => ("GraphNames$Tree", "like", "I", false)
def tyX7 : Nat → FieldType := fun k => match k with
  | 0 => .object "GraphNames$Graph"
  | 1 => .array (.object "GraphNames$Cells")
  | 2 => .object "GraphNames$Leaf"
  | 3 => .object "GraphNames$Leaf"
  | 4 => .int
  | 5 => .int
  | 6 => .int
  | 7 => .int
  | 8 => .boolean
  | 9 => .int
  | _ => .int
abbrev wsX70 : List Cond := u_ws RX7 TX7 11
theorem nmX7 : ∀ a, a < 11 → ∀ b, b < 11 → a ≠ b → (TX7 a).2.1 ≠ (TX7 b).2.1 := by decide +kernel
theorem tyX7_ok : ∀ k, k < 11 → parseFieldDescriptor (TX7 k).2.2.1 = some (tyX7 k) := by decide +kernel
abbrev cX7_init : ByteArray := prog_9_method_1_code
def yX7_init : MethodName := ⟨RX7, "<init>", "()V"⟩
abbrev cX7_forget : ByteArray := prog_9_method_2_code
def yX7_forget : MethodName := ⟨RX7, "forget", "()V"⟩
abbrev cX7_skips : ByteArray := prog_9_method_3_code
def yX7_skips : MethodName := ⟨RX7, "skips", "(III)Z"⟩
abbrev cX7_cuts : ByteArray := prog_9_method_4_code
def yX7_cuts : MethodName := ⟨RX7, "cuts", "(I)Z"⟩
abbrev cX7_reach : ByteArray := prog_9_method_5_code
def yX7_reach : MethodName := ⟨RX7, "reach", "()V"⟩
def RX8 : String := "GraphNames$Walk"
def TX8 : u_T := fun k => match k with
  | _ => ("", "", "", false)
def tyX8 : Nat → FieldType := fun k => match k with
  | _ => .int
abbrev wsX80 : List Cond := u_ws RX8 TX8 0
theorem nmX8 : ∀ a, a < 0 → ∀ b, b < 0 → a ≠ b → (TX8 a).2.1 ≠ (TX8 b).2.1 := by decide +kernel
theorem tyX8_ok : ∀ k, k < 0 → parseFieldDescriptor (TX8 k).2.2.1 = some (tyX8 k) := by decide +kernel
abbrev cX8_init : ByteArray := prog_10_method_1_code
def yX8_init : MethodName := ⟨RX8, "<init>", "()V"⟩
abbrev cX8_look : ByteArray := prog_10_method_6_code
def yX8_look : MethodName := ⟨RX8, "look", "(LGraphNames$Graph;)V"⟩
abbrev cX8_come : ByteArray := prog_10_method_7_code
def yX8_come : MethodName := ⟨RX8, "come", "(II)V"⟩
def RX9 : String := "GraphNames"
def TX9 : u_T := fun k => match k with
  | 0 => ("GraphNames", "graphs", "[LGraphNames$Graph;", true)
  | 1 => ("GraphNames", "trees", "[LGraphNames$Tree;", true)
  | 2 => ("GraphNames", "searches", "[LGraphNames$Search;", true)
  | 3 => ("GraphNames", "reader", "LGraphNames$Reader;", true)
  | 4 => ("GraphNames", "past", "LGraphNames$Past;", true)
  | 5 => ("GraphNames", "images", "[LGraphNames$Graph;", true)
  | 6 => ("GraphNames", "kept", "[Z", true)
  | 7 => ("GraphNames", "cells", "LGraphNames$Cells;", true)
  | 8 => ("GraphNames", "others", "LGraphNames$Cells;", true)
  | 9 => ("GraphNames", "pairing", "LGraphNames$Pairing;", true)
  | 10 => ("GraphNames", "made", "LGraphNames$Graph;", true)
  | 11 => ("GraphNames", "cardSearch", "LGraphNames$Search;", true)
  | 12 => ("GraphNames", "cardNames", "[LGraphNames$Leaf;", true)
  | _ => ("GraphNames", "trouble", "I", false)
def tyX9 : Nat → FieldType := fun k => match k with
  | 0 => .array (.object "GraphNames$Graph")
  | 1 => .array (.object "GraphNames$Tree")
  | 2 => .array (.object "GraphNames$Search")
  | 3 => .object "GraphNames$Reader"
  | 4 => .object "GraphNames$Past"
  | 5 => .array (.object "GraphNames$Graph")
  | 6 => .array .boolean
  | 7 => .object "GraphNames$Cells"
  | 8 => .object "GraphNames$Cells"
  | 9 => .object "GraphNames$Pairing"
  | 10 => .object "GraphNames$Graph"
  | 11 => .object "GraphNames$Search"
  | 12 => .array (.object "GraphNames$Leaf")
  | _ => .int
abbrev wsX90 : List Cond := u_ws RX9 TX9 14
theorem nmX9 : ∀ a, a < 14 → ∀ b, b < 14 → a ≠ b → (TX9 a).2.1 ≠ (TX9 b).2.1 := by decide +kernel
theorem tyX9_ok : ∀ k, k < 14 → parseFieldDescriptor (TX9 k).2.2.1 = some (tyX9 k) := by decide +kernel
abbrev cX9_init : ByteArray := prog_1_method_1_code
def yX9_init : MethodName := ⟨RX9, "<init>", "()V"⟩
abbrev cX9_feed : ByteArray := prog_1_method_2_code
def yX9_feed : MethodName := ⟨RX9, "feed", "(IIIII)I"⟩
abbrev cX9_text : ByteArray := prog_1_method_3_code
def yX9_text : MethodName := ⟨RX9, "text", "(II)I"⟩
abbrev cX9_fault : ByteArray := prog_1_method_4_code
def yX9_fault : MethodName := ⟨RX9, "fault", "()I"⟩
abbrev cX9_where : ByteArray := prog_1_method_5_code
def yX9_where : MethodName := ⟨RX9, "where", "()I"⟩
abbrev cX9_graph : ByteArray := prog_1_method_6_code
def yX9_graph : MethodName := ⟨RX9, "graph", "(II)I"⟩
abbrev cX9_colour : ByteArray := prog_1_method_7_code
def yX9_colour : MethodName := ⟨RX9, "colour", "(II)I"⟩
abbrev cX9_kind : ByteArray := prog_1_method_8_code
def yX9_kind : MethodName := ⟨RX9, "kind", "(III)I"⟩
abbrev cX9_degree : ByteArray := prog_1_method_9_code
def yX9_degree : MethodName := ⟨RX9, "degree", "(III)I"⟩
abbrev cX9_start : ByteArray := prog_1_method_10_code
def yX9_start : MethodName := ⟨RX9, "start", "(II)I"⟩
abbrev cX9_cell : ByteArray := prog_1_method_11_code
def yX9_cell : MethodName := ⟨RX9, "cell", "(II)I"⟩
abbrev cX9_apart : ByteArray := prog_1_method_12_code
def yX9_apart : MethodName := ⟨RX9, "apart", "(III)I"⟩
abbrev cX9_tree : ByteArray := prog_1_method_13_code
def yX9_tree : MethodName := ⟨RX9, "tree", "(II)I"⟩
abbrev cX9_search : ByteArray := prog_1_method_14_code
def yX9_search : MethodName := ⟨RX9, "search", "(II)I"⟩
abbrev cX9_name : ByteArray := prog_1_method_15_code
def yX9_name : MethodName := ⟨RX9, "name", "(II)I"⟩
abbrev cX9_place : ByteArray := prog_1_method_16_code
def yX9_place : MethodName := ⟨RX9, "place", "(II)I"⟩
abbrev cX9_less : ByteArray := prog_1_method_17_code
def yX9_less : MethodName := ⟨RX9, "less", "(II)I"⟩
abbrev cX9_generator : ByteArray := prog_1_method_18_code
def yX9_generator : MethodName := ⟨RX9, "generator", "(III)I"⟩
abbrev cX9_symmetries : ByteArray := prog_1_method_19_code
def yX9_symmetries : MethodName := ⟨RX9, "symmetries", "(II)I"⟩
abbrev cX9_orbit : ByteArray := prog_1_method_20_code
def yX9_orbit : MethodName := ⟨RX9, "orbit", "(II)I"⟩
abbrev cX9_leave : ByteArray := prog_1_method_21_code
def yX9_leave : MethodName := ⟨RX9, "leave", "(II)I"⟩
abbrev cX9_maps : ByteArray := prog_1_method_22_code
def yX9_maps : MethodName := ⟨RX9, "maps", "(II)I"⟩
abbrev cX9_map : ByteArray := prog_1_method_23_code
def yX9_map : MethodName := ⟨RX9, "map", "(III)I"⟩
abbrev cX9_changes : ByteArray := prog_1_method_24_code
def yX9_changes : MethodName := ⟨RX9, "changes", "(II)I"⟩
abbrev cX9_told : ByteArray := prog_1_method_25_code
def yX9_told : MethodName := ⟨RX9, "told", "(II)I"⟩
abbrev cX9_cards : ByteArray := prog_1_method_26_code
def yX9_cards : MethodName := ⟨RX9, "cards", "(II)I"⟩
abbrev cX9_turned : ByteArray := prog_1_method_27_code
def yX9_turned : MethodName := ⟨RX9, "turned", "(I)I"⟩
abbrev cX9_base : ByteArray := prog_1_method_28_code
def yX9_base : MethodName := ⟨RX9, "base", "(II)I"⟩
abbrev cX9_fewest : ByteArray := prog_1_method_29_code
def yX9_fewest : MethodName := ⟨RX9, "fewest", "(I)I"⟩
abbrev cX9_link : ByteArray := prog_1_method_30_code
def yX9_link : MethodName := ⟨RX9, "link", "(IIII)I"⟩
abbrev cX9_paint : ByteArray := prog_1_method_31_code
def yX9_paint : MethodName := ⟨RX9, "paint", "(III)I"⟩
abbrev cX9_swap : ByteArray := prog_1_method_32_code
def yX9_swap : MethodName := ⟨RX9, "swap", "(III)I"⟩
abbrev cX9_shuffle : ByteArray := prog_1_method_33_code
def yX9_shuffle : MethodName := ⟨RX9, "shuffle", "(II)I"⟩
abbrev cX9_copy : ByteArray := prog_1_method_34_code
def yX9_copy : MethodName := ⟨RX9, "copy", "(II)I"⟩
abbrev cX9_turn : ByteArray := prog_1_method_35_code
def yX9_turn : MethodName := ⟨RX9, "turn", "(I)I"⟩
abbrev cX9_drop : ByteArray := prog_1_method_36_code
def yX9_drop : MethodName := ⟨RX9, "drop", "(II)I"⟩
abbrev cX9_grow : ByteArray := prog_1_method_37_code
def yX9_grow : MethodName := ⟨RX9, "grow", "(III)I"⟩
abbrev cX9_undo : ByteArray := prog_1_method_38_code
def yX9_undo : MethodName := ⟨RX9, "undo", "()I"⟩
abbrev cX9_image : ByteArray := prog_1_method_39_code
def yX9_image : MethodName := ⟨RX9, "image", "(I)Z"⟩
abbrev cX9_again : ByteArray := prog_1_method_40_code
def yX9_again : MethodName := ⟨RX9, "again", "(I)Z"⟩
abbrev cX9_row : ByteArray := prog_1_method_41_code
def yX9_row : MethodName := ⟨RX9, "row", "(II)I"⟩
abbrev cX9_size : ByteArray := prog_1_method_42_code
def yX9_size : MethodName := ⟨RX9, "size", "()I"⟩
abbrev cX9_trouble : ByteArray := prog_1_method_43_code
def yX9_trouble : MethodName := ⟨RX9, "trouble", "()I"⟩
abbrev cX9_refused : ByteArray := prog_1_method_44_code
def yX9_refused : MethodName := ⟨RX9, "refused", "(I)I"⟩
abbrev cX9_answered : ByteArray := prog_1_method_45_code
def yX9_answered : MethodName := ⟨RX9, "answered", "(I)I"⟩
abbrev cX9_at : ByteArray := prog_1_method_46_code
def yX9_at : MethodName := ⟨RX9, "at", "(I)LGraphNames$Graph;"⟩
abbrev cX9_searchOf : ByteArray := prog_1_method_47_code
def yX9_searchOf : MethodName := ⟨RX9, "searchOf", "(I)LGraphNames$Search;"⟩
abbrev cX9_toldApart : ByteArray := prog_1_method_48_code
def yX9_toldApart : MethodName := ⟨RX9, "toldApart", "(LGraphNames$Graph;LGraphNames$Graph;)I"⟩
abbrev cX9_nameCards : ByteArray := prog_1_method_49_code
def yX9_nameCards : MethodName := ⟨RX9, "nameCards", "(LGraphNames$Graph;)V"⟩
abbrev cX9_unlikeCards : ByteArray := prog_1_method_50_code
def yX9_unlikeCards : MethodName := ⟨RX9, "unlikeCards", "(I)I"⟩
abbrev cX9_cardsLike : ByteArray := prog_1_method_51_code
def yX9_cardsLike : MethodName := ⟨RX9, "cardsLike", "(II)I"⟩
abbrev cX9_cellsWith : ByteArray := prog_1_method_52_code
def yX9_cellsWith : MethodName := ⟨RX9, "cellsWith", "(LGraphNames$Graph;I)I"⟩
abbrev cX9_fewestApart : ByteArray := prog_1_method_53_code
def yX9_fewestApart : MethodName := ⟨RX9, "fewestApart", "(LGraphNames$Graph;)I"⟩
abbrev cX9_in : ByteArray := prog_1_method_54_code
def yX9_in : MethodName := ⟨RX9, "in", "(II)Z"⟩
abbrev cX9_sentTo : ByteArray := prog_1_method_55_code
def yX9_sentTo : MethodName := ⟨RX9, "sentTo", "(II)I"⟩
def RX10 : String := "GraphNamesModel"
def TX10 : u_T := fun k => match k with
  | 0 => ("GraphNamesModel", "thrown", "I", false)
  | 1 => ("GraphNamesModel", "trouble", "I", false)
  | 2 => ("GraphNamesModel", "place", "I", false)
  | 3 => ("GraphNamesModel", "fault", "I", false)
  | 4 => ("GraphNamesModel", "s", "[I", true)
  | 5 => ("GraphNamesModel", "past", "[I", true)
  | 6 => ("GraphNamesModel", "acts", "I", false)
  | 7 => ("GraphNamesModel", "kept", "[I", true)
  | 8 => ("GraphNamesModel", "isKept", "[Z", true)
  | 9 => ("GraphNamesModel", "tape", "[I", true)
  | 10 => ("GraphNamesModel", "taped", "I", false)
  | 11 => ("GraphNamesModel", "length", "I", false)
  | 12 => ("GraphNamesModel", "next", "I", false)
  | 13 => ("GraphNamesModel", "from", "I", false)
  | 14 => ("GraphNamesModel", "sort", "I", false)
  | 15 => ("GraphNamesModel", "word", "I", false)
  | 16 => ("GraphNamesModel", "digit", "I", false)
  | 17 => ("GraphNamesModel", "wrong", "I", false)
  | 18 => ("GraphNamesModel", "wrongAt", "I", false)
  | 19 => ("GraphNamesModel", "read", "[I", true)
  | 20 => ("GraphNamesModel", "painted", "I", false)
  | 21 => ("GraphNamesModel", "n", "I", false)
  | 22 => ("GraphNamesModel", "colours", "[I", true)
  | 23 => ("GraphNamesModel", "kinds", "[I", true)
  | 24 => ("GraphNamesModel", "cell", "[I", true)
  | 25 => ("GraphNamesModel", "cells", "I", false)
  | 26 => ("GraphNamesModel", "signs", "[I", true)
  | 27 => ("GraphNamesModel", "ranks", "[I", true)
  | 28 => ("GraphNamesModel", "saved", "[I", true)
  | 29 => ("GraphNamesModel", "marks", "[I", true)
  | 30 => ("GraphNamesModel", "nodes", "I", false)
  | 31 => ("GraphNamesModel", "leafs", "I", false)
  | 32 => ("GraphNamesModel", "deepest", "I", false)
  | 33 => ("GraphNamesModel", "alike", "I", false)
  | 34 => ("GraphNamesModel", "code", "[I", true)
  | 35 => ("GraphNamesModel", "bestDepth", "I", false)
  | 36 => ("GraphNamesModel", "bestMarks", "[I", true)
  | 37 => ("GraphNamesModel", "bestCode", "[I", true)
  | 38 => ("GraphNamesModel", "bestAt", "[I", true)
  | 39 => ("GraphNamesModel", "names", "[I", true)
  | 40 => ("GraphNamesModel", "cuts", "I", false)
  | 41 => ("GraphNamesModel", "skips", "I", false)
  | 42 => ("GraphNamesModel", "became", "I", false)
  | 43 => ("GraphNamesModel", "path", "[I", true)
  | 44 => ("GraphNamesModel", "firstDepth", "I", false)
  | 45 => ("GraphNamesModel", "firstMarks", "[I", true)
  | 46 => ("GraphNamesModel", "firstCode", "[I", true)
  | 47 => ("GraphNamesModel", "firstAt", "[I", true)
  | 48 => ("GraphNamesModel", "generators", "[I", true)
  | 49 => ("GraphNamesModel", "generatorMany", "I", false)
  | 50 => ("GraphNamesModel", "otherN", "I", false)
  | 51 => ("GraphNamesModel", "otherColours", "[I", true)
  | 52 => ("GraphNamesModel", "otherKinds", "[I", true)
  | 53 => ("GraphNamesModel", "sent", "[I", true)
  | 54 => ("GraphNamesModel", "leastMap", "[I", true)
  | 55 => ("GraphNamesModel", "orbits", "[I", true)
  | 56 => ("GraphNamesModel", "mapMany", "I", false)
  | 57 => ("GraphNamesModel", "mapLeft", "I", false)
  | 58 => ("GraphNamesModel", "leftSet", "I", false)
  | 59 => ("GraphNamesModel", "fewestChanges", "I", false)
  | 60 => ("GraphNamesModel", "otherCell", "[I", true)
  | 61 => ("GraphNamesModel", "otherSigns", "[I", true)
  | _ => ("GraphNamesModel", "drawn", "J", false)
def tyX10 : Nat → FieldType := fun k => match k with
  | 0 => .int
  | 1 => .int
  | 2 => .int
  | 3 => .int
  | 4 => .array .int
  | 5 => .array .int
  | 6 => .int
  | 7 => .array .int
  | 8 => .array .boolean
  | 9 => .array .int
  | 10 => .int
  | 11 => .int
  | 12 => .int
  | 13 => .int
  | 14 => .int
  | 15 => .int
  | 16 => .int
  | 17 => .int
  | 18 => .int
  | 19 => .array .int
  | 20 => .int
  | 21 => .int
  | 22 => .array .int
  | 23 => .array .int
  | 24 => .array .int
  | 25 => .int
  | 26 => .array .int
  | 27 => .array .int
  | 28 => .array .int
  | 29 => .array .int
  | 30 => .int
  | 31 => .int
  | 32 => .int
  | 33 => .int
  | 34 => .array .int
  | 35 => .int
  | 36 => .array .int
  | 37 => .array .int
  | 38 => .array .int
  | 39 => .array .int
  | 40 => .int
  | 41 => .int
  | 42 => .int
  | 43 => .array .int
  | 44 => .int
  | 45 => .array .int
  | 46 => .array .int
  | 47 => .array .int
  | 48 => .array .int
  | 49 => .int
  | 50 => .int
  | 51 => .array .int
  | 52 => .array .int
  | 53 => .array .int
  | 54 => .array .int
  | 55 => .array .int
  | 56 => .int
  | 57 => .int
  | 58 => .int
  | 59 => .int
  | 60 => .array .int
  | 61 => .array .int
  | _ => .long
abbrev wsX100 : List Cond := u_ws RX10 TX10 63
theorem nmX10 : ∀ a, a < 63 → ∀ b, b < 63 → a ≠ b → (TX10 a).2.1 ≠ (TX10 b).2.1 := by decide +kernel
theorem tyX10_ok : ∀ k, k < 63 → parseFieldDescriptor (TX10 k).2.2.1 = some (tyX10 k) := by decide +kernel
abbrev cX10_init : ByteArray := prog_12_method_1_code
def yX10_init : MethodName := ⟨RX10, "<init>", "()V"⟩
abbrev cX10_thrown : ByteArray := prog_12_method_2_code
def yX10_thrown : MethodName := ⟨RX10, "thrown", "()I"⟩
abbrev cX10_in : ByteArray := prog_12_method_3_code
def yX10_in : MethodName := ⟨RX10, "in", "(III)Z"⟩
abbrev cX10_has : ByteArray := prog_12_method_4_code
def yX10_has : MethodName := ⟨RX10, "has", "(II)Z"⟩
abbrev cX10_ones : ByteArray := prog_12_method_5_code
def yX10_ones : MethodName := ⟨RX10, "ones", "(I)I"⟩
abbrev cX10_begins : ByteArray := prog_12_method_6_code
def yX10_begins : MethodName := ⟨RX10, "begins", "()V"⟩
abbrev cX10_refuse : ByteArray := prog_12_method_7_code
def yX10_refuse : MethodName := ⟨RX10, "refuse", "(ZI)Z"⟩
abbrev cX10_feed : ByteArray := prog_12_method_8_code
def yX10_feed : MethodName := ⟨RX10, "feed", "(IIIII)I"⟩
abbrev cX10_size : ByteArray := prog_12_method_9_code
def yX10_size : MethodName := ⟨RX10, "size", "()I"⟩
abbrev cX10_trouble : ByteArray := prog_12_method_10_code
def yX10_trouble : MethodName := ⟨RX10, "trouble", "()I"⟩
abbrev cX10_fault : ByteArray := prog_12_method_11_code
def yX10_fault : MethodName := ⟨RX10, "fault", "()I"⟩
abbrev cX10_where : ByteArray := prog_12_method_12_code
def yX10_where : MethodName := ⟨RX10, "where", "()I"⟩
abbrev cX10_seen : ByteArray := prog_12_method_13_code
def yX10_seen : MethodName := ⟨RX10, "seen", "(I)I"⟩
abbrev cX10_isLetter : ByteArray := prog_12_method_14_code
def yX10_isLetter : MethodName := ⟨RX10, "isLetter", "(I)Z"⟩
abbrev cX10_token : ByteArray := prog_12_method_15_code
def yX10_token : MethodName := ⟨RX10, "token", "()V"⟩
abbrev cX10_fails : ByteArray := prog_12_method_16_code
def yX10_fails : MethodName := ⟨RX10, "fails", "(I)V"⟩
abbrev cX10_goesOn : ByteArray := prog_12_method_17_code
def yX10_goesOn : MethodName := ⟨RX10, "goesOn", "()V"⟩
abbrev cX10_spelled : ByteArray := prog_12_method_18_code
def yX10_spelled : MethodName := ⟨RX10, "spelled", "(IIIII)I"⟩
abbrev cX10_isWord : ByteArray := prog_12_method_19_code
def yX10_isWord : MethodName := ⟨RX10, "isWord", "(I)Z"⟩
abbrev cX10_isDigit : ByteArray := prog_12_method_20_code
def yX10_isDigit : MethodName := ⟨RX10, "isDigit", "()Z"⟩
abbrev cX10_hold : ByteArray := prog_12_method_21_code
def yX10_hold : MethodName := ⟨RX10, "hold", "(II)I"⟩
abbrev cX10_takes : ByteArray := prog_12_method_22_code
def yX10_takes : MethodName := ⟨RX10, "takes", "(II)I"⟩
abbrev cX10_readVertex : ByteArray := prog_12_method_23_code
def yX10_readVertex : MethodName := ⟨RX10, "readVertex", "()I"⟩
abbrev cX10_linksRead : ByteArray := prog_12_method_24_code
def yX10_linksRead : MethodName := ⟨RX10, "linksRead", "(III)V"⟩
abbrev cX10_isRead : ByteArray := prog_12_method_25_code
def yX10_isRead : MethodName := ⟨RX10, "isRead", "(II)Z"⟩
abbrev cX10_readLinked : ByteArray := prog_12_method_26_code
def yX10_readLinked : MethodName := ⟨RX10, "readLinked", "(I)I"⟩
abbrev cX10_paintLine : ByteArray := prog_12_method_27_code
def yX10_paintLine : MethodName := ⟨RX10, "paintLine", "()V"⟩
abbrev cX10_linkLine : ByteArray := prog_12_method_28_code
def yX10_linkLine : MethodName := ⟨RX10, "linkLine", "()V"⟩
abbrev cX10_pathLine : ByteArray := prog_12_method_29_code
def yX10_pathLine : MethodName := ⟨RX10, "pathLine", "(Z)V"⟩
abbrev cX10_line : ByteArray := prog_12_method_30_code
def yX10_line : MethodName := ⟨RX10, "line", "()V"⟩
abbrev cX10_reads : ByteArray := prog_12_method_31_code
def yX10_reads : MethodName := ⟨RX10, "reads", "(I)V"⟩
abbrev cX10_text : ByteArray := prog_12_method_32_code
def yX10_text : MethodName := ⟨RX10, "text", "(II)I"⟩
abbrev cX10_isGraph : ByteArray := prog_12_method_33_code
def yX10_isGraph : MethodName := ⟨RX10, "isGraph", "(I)Z"⟩
abbrev cX10_manyOf : ByteArray := prog_12_method_34_code
def yX10_manyOf : MethodName := ⟨RX10, "manyOf", "(I)I"⟩
abbrev cX10_isVertex : ByteArray := prog_12_method_35_code
def yX10_isVertex : MethodName := ⟨RX10, "isVertex", "(II)Z"⟩
abbrev cX10_isSet : ByteArray := prog_12_method_36_code
def yX10_isSet : MethodName := ⟨RX10, "isSet", "(II)Z"⟩
abbrev cX10_colourOf : ByteArray := prog_12_method_37_code
def yX10_colourOf : MethodName := ⟨RX10, "colourOf", "(II)I"⟩
abbrev cX10_kindOf : ByteArray := prog_12_method_38_code
def yX10_kindOf : MethodName := ⟨RX10, "kindOf", "(III)I"⟩
abbrev cX10_rowOf : ByteArray := prog_12_method_39_code
def yX10_rowOf : MethodName := ⟨RX10, "rowOf", "(II)I"⟩
abbrev cX10_linksOf : ByteArray := prog_12_method_40_code
def yX10_linksOf : MethodName := ⟨RX10, "linksOf", "(I)I"⟩
abbrev cX10_coloursOf : ByteArray := prog_12_method_41_code
def yX10_coloursOf : MethodName := ⟨RX10, "coloursOf", "(I)I"⟩
abbrev cX10_graph : ByteArray := prog_12_method_42_code
def yX10_graph : MethodName := ⟨RX10, "graph", "(II)I"⟩
abbrev cX10_colour : ByteArray := prog_12_method_43_code
def yX10_colour : MethodName := ⟨RX10, "colour", "(II)I"⟩
abbrev cX10_kind : ByteArray := prog_12_method_44_code
def yX10_kind : MethodName := ⟨RX10, "kind", "(III)I"⟩
abbrev cX10_degree : ByteArray := prog_12_method_45_code
def yX10_degree : MethodName := ⟨RX10, "degree", "(III)I"⟩
abbrev cX10_row : ByteArray := prog_12_method_46_code
def yX10_row : MethodName := ⟨RX10, "row", "(II)I"⟩
abbrev cX10_lays : ByteArray := prog_12_method_47_code
def yX10_lays : MethodName := ⟨RX10, "lays", "(I)V"⟩
abbrev cX10_laysCard : ByteArray := prog_12_method_48_code
def yX10_laysCard : MethodName := ⟨RX10, "laysCard", "(II)V"⟩
abbrev cX10_laysTurned : ByteArray := prog_12_method_49_code
def yX10_laysTurned : MethodName := ⟨RX10, "laysTurned", "(I)V"⟩
abbrev cX10_laysSigns : ByteArray := prog_12_method_50_code
def yX10_laysSigns : MethodName := ⟨RX10, "laysSigns", "()V"⟩
abbrev cX10_compares : ByteArray := prog_12_method_51_code
def yX10_compares : MethodName := ⟨RX10, "compares", "([II[III)I"⟩
abbrev cX10_rankOf : ByteArray := prog_12_method_52_code
def yX10_rankOf : MethodName := ⟨RX10, "rankOf", "(I)I"⟩
abbrev cX10_goesRound : ByteArray := prog_12_method_53_code
def yX10_goesRound : MethodName := ⟨RX10, "goesRound", "()Z"⟩
abbrev cX10_refines : ByteArray := prog_12_method_54_code
def yX10_refines : MethodName := ⟨RX10, "refines", "()I"⟩
abbrev cX10_laysColours : ByteArray := prog_12_method_55_code
def yX10_laysColours : MethodName := ⟨RX10, "laysColours", "()V"⟩
abbrev cX10_sizeOf : ByteArray := prog_12_method_56_code
def yX10_sizeOf : MethodName := ⟨RX10, "sizeOf", "(I)I"⟩
abbrev cX10_targetCell : ByteArray := prog_12_method_57_code
def yX10_targetCell : MethodName := ⟨RX10, "targetCell", "()I"⟩
abbrev cX10_setOf : ByteArray := prog_12_method_58_code
def yX10_setOf : MethodName := ⟨RX10, "setOf", "(I)I"⟩
abbrev cX10_setsApart : ByteArray := prog_12_method_59_code
def yX10_setsApart : MethodName := ⟨RX10, "setsApart", "(I)V"⟩
abbrev cX10_markOf : ByteArray := prog_12_method_60_code
def yX10_markOf : MethodName := ⟨RX10, "markOf", "(I)I"⟩
abbrev cX10_starts : ByteArray := prog_12_method_61_code
def yX10_starts : MethodName := ⟨RX10, "starts", "()I"⟩
abbrev cX10_start : ByteArray := prog_12_method_62_code
def yX10_start : MethodName := ⟨RX10, "start", "(II)I"⟩
abbrev cX10_cell : ByteArray := prog_12_method_63_code
def yX10_cell : MethodName := ⟨RX10, "cell", "(II)I"⟩
abbrev cX10_apart : ByteArray := prog_12_method_64_code
def yX10_apart : MethodName := ⟨RX10, "apart", "(III)I"⟩
abbrev cX10_base : ByteArray := prog_12_method_65_code
def yX10_base : MethodName := ⟨RX10, "base", "(II)I"⟩
abbrev cX10_cellsBy : ByteArray := prog_12_method_66_code
def yX10_cellsBy : MethodName := ⟨RX10, "cellsBy", "(I)I"⟩
abbrev cX10_fewest : ByteArray := prog_12_method_67_code
def yX10_fewest : MethodName := ⟨RX10, "fewest", "(I)I"⟩
abbrev cX10_codeLong : ByteArray := prog_12_method_68_code
def yX10_codeLong : MethodName := ⟨RX10, "codeLong", "()I"⟩
abbrev cX10_vertexIn : ByteArray := prog_12_method_69_code
def yX10_vertexIn : MethodName := ⟨RX10, "vertexIn", "(I)I"⟩
abbrev cX10_laysCode : ByteArray := prog_12_method_70_code
def yX10_laysCode : MethodName := ⟨RX10, "laysCode", "()V"⟩
abbrev cX10_comparesBest : ByteArray := prog_12_method_71_code
def yX10_comparesBest : MethodName := ⟨RX10, "comparesBest", "(I)I"⟩
abbrev cX10_isBest : ByteArray := prog_12_method_72_code
def yX10_isBest : MethodName := ⟨RX10, "isBest", "(I)V"⟩
abbrev cX10_saves : ByteArray := prog_12_method_73_code
def yX10_saves : MethodName := ⟨RX10, "saves", "(I)V"⟩
abbrev cX10_comesBack : ByteArray := prog_12_method_74_code
def yX10_comesBack : MethodName := ⟨RX10, "comesBack", "(II)V"⟩
abbrev cX10_walks : ByteArray := prog_12_method_75_code
def yX10_walks : MethodName := ⟨RX10, "walks", "(I)V"⟩
abbrev cX10_walksAll : ByteArray := prog_12_method_76_code
def yX10_walksAll : MethodName := ⟨RX10, "walksAll", "()V"⟩
abbrev cX10_tree : ByteArray := prog_12_method_77_code
def yX10_tree : MethodName := ⟨RX10, "tree", "(II)I"⟩
abbrev cX10_name : ByteArray := prog_12_method_78_code
def yX10_name : MethodName := ⟨RX10, "name", "(II)I"⟩
abbrev cX10_place : ByteArray := prog_12_method_79_code
def yX10_place : MethodName := ⟨RX10, "place", "(II)I"⟩
abbrev cX10_keepsName : ByteArray := prog_12_method_80_code
def yX10_keepsName : MethodName := ⟨RX10, "keepsName", "(I)V"⟩
abbrev cX10_less : ByteArray := prog_12_method_81_code
def yX10_less : MethodName := ⟨RX10, "less", "(II)I"⟩
abbrev cX10_isLikeFirst : ByteArray := prog_12_method_82_code
def yX10_isLikeFirst : MethodName := ⟨RX10, "isLikeFirst", "(I)Z"⟩
abbrev cX10_isFirst : ByteArray := prog_12_method_83_code
def yX10_isFirst : MethodName := ⟨RX10, "isFirst", "(I)V"⟩
abbrev cX10_generates : ByteArray := prog_12_method_84_code
def yX10_generates : MethodName := ⟨RX10, "generates", "([I)V"⟩
abbrev cX10_sentBy : ByteArray := prog_12_method_85_code
def yX10_sentBy : MethodName := ⟨RX10, "sentBy", "(II)I"⟩
abbrev cX10_comesToLeaf : ByteArray := prog_12_method_86_code
def yX10_comesToLeaf : MethodName := ⟨RX10, "comesToLeaf", "(I)V"⟩
abbrev cX10_leavesPath : ByteArray := prog_12_method_87_code
def yX10_leavesPath : MethodName := ⟨RX10, "leavesPath", "(II)Z"⟩
abbrev cX10_comesTo : ByteArray := prog_12_method_88_code
def yX10_comesTo : MethodName := ⟨RX10, "comesTo", "(III)Z"⟩
abbrev cX10_sentSet : ByteArray := prog_12_method_89_code
def yX10_sentSet : MethodName := ⟨RX10, "sentSet", "(II)I"⟩
abbrev cX10_isCut : ByteArray := prog_12_method_90_code
def yX10_isCut : MethodName := ⟨RX10, "isCut", "(I)Z"⟩
abbrev cX10_searches : ByteArray := prog_12_method_91_code
def yX10_searches : MethodName := ⟨RX10, "searches", "(I)V"⟩
abbrev cX10_searchesAll : ByteArray := prog_12_method_92_code
def yX10_searchesAll : MethodName := ⟨RX10, "searchesAll", "()V"⟩
abbrev cX10_search : ByteArray := prog_12_method_93_code
def yX10_search : MethodName := ⟨RX10, "search", "(II)I"⟩
abbrev cX10_generator : ByteArray := prog_12_method_94_code
def yX10_generator : MethodName := ⟨RX10, "generator", "(III)I"⟩
abbrev cX10_laysOther : ByteArray := prog_12_method_95_code
def yX10_laysOther : MethodName := ⟨RX10, "laysOther", "()V"⟩
abbrev cX10_fits : ByteArray := prog_12_method_96_code
def yX10_fits : MethodName := ⟨RX10, "fits", "(II)Z"⟩
abbrev cX10_mapsFrom : ByteArray := prog_12_method_97_code
def yX10_mapsFrom : MethodName := ⟨RX10, "mapsFrom", "(I)V"⟩
abbrev cX10_mapsAll : ByteArray := prog_12_method_98_code
def yX10_mapsAll : MethodName := ⟨RX10, "mapsAll", "(I)V"⟩
abbrev cX10_laysMaps : ByteArray := prog_12_method_99_code
def yX10_laysMaps : MethodName := ⟨RX10, "laysMaps", "(III)V"⟩
abbrev cX10_symmetries : ByteArray := prog_12_method_100_code
def yX10_symmetries : MethodName := ⟨RX10, "symmetries", "(II)I"⟩
abbrev cX10_orbit : ByteArray := prog_12_method_101_code
def yX10_orbit : MethodName := ⟨RX10, "orbit", "(II)I"⟩
abbrev cX10_leave : ByteArray := prog_12_method_102_code
def yX10_leave : MethodName := ⟨RX10, "leave", "(II)I"⟩
abbrev cX10_maps : ByteArray := prog_12_method_103_code
def yX10_maps : MethodName := ⟨RX10, "maps", "(II)I"⟩
abbrev cX10_map : ByteArray := prog_12_method_104_code
def yX10_map : MethodName := ⟨RX10, "map", "(III)I"⟩
abbrev cX10_changesFrom : ByteArray := prog_12_method_105_code
def yX10_changesFrom : MethodName := ⟨RX10, "changesFrom", "(III)V"⟩
abbrev cX10_changes : ByteArray := prog_12_method_106_code
def yX10_changes : MethodName := ⟨RX10, "changes", "(II)I"⟩
abbrev cX10_areColoursAlike : ByteArray := prog_12_method_107_code
def yX10_areColoursAlike : MethodName := ⟨RX10, "areColoursAlike", "()Z"⟩
abbrev cX10_laysOtherSigns : ByteArray := prog_12_method_108_code
def yX10_laysOtherSigns : MethodName := ⟨RX10, "laysOtherSigns", "()V"⟩
abbrev cX10_areSignsAlike : ByteArray := prog_12_method_109_code
def yX10_areSignsAlike : MethodName := ⟨RX10, "areSignsAlike", "()Z"⟩
abbrev cX10_laysOtherCells : ByteArray := prog_12_method_110_code
def yX10_laysOtherCells : MethodName := ⟨RX10, "laysOtherCells", "()V"⟩
abbrev cX10_toldBy : ByteArray := prog_12_method_111_code
def yX10_toldBy : MethodName := ⟨RX10, "toldBy", "()I"⟩
abbrev cX10_told : ByteArray := prog_12_method_112_code
def yX10_told : MethodName := ⟨RX10, "told", "(II)I"⟩
abbrev cX10_cards : ByteArray := prog_12_method_113_code
def yX10_cards : MethodName := ⟨RX10, "cards", "(II)I"⟩
abbrev cX10_turned : ByteArray := prog_12_method_114_code
def yX10_turned : MethodName := ⟨RX10, "turned", "(I)I"⟩
abbrev cX10_keeps : ByteArray := prog_12_method_115_code
def yX10_keeps : MethodName := ⟨RX10, "keeps", "()V"⟩
abbrev cX10_putsKind : ByteArray := prog_12_method_116_code
def yX10_putsKind : MethodName := ⟨RX10, "putsKind", "(IIII)V"⟩
abbrev cX10_link : ByteArray := prog_12_method_117_code
def yX10_link : MethodName := ⟨RX10, "link", "(IIII)I"⟩
abbrev cX10_paint : ByteArray := prog_12_method_118_code
def yX10_paint : MethodName := ⟨RX10, "paint", "(III)I"⟩
abbrev cX10_swaps : ByteArray := prog_12_method_119_code
def yX10_swaps : MethodName := ⟨RX10, "swaps", "(III)V"⟩
abbrev cX10_swap : ByteArray := prog_12_method_120_code
def yX10_swap : MethodName := ⟨RX10, "swap", "(III)I"⟩
abbrev cX10_draw : ByteArray := prog_12_method_121_code
def yX10_draw : MethodName := ⟨RX10, "draw", "(I)I"⟩
abbrev cX10_shuffle : ByteArray := prog_12_method_122_code
def yX10_shuffle : MethodName := ⟨RX10, "shuffle", "(II)I"⟩
abbrev cX10_copy : ByteArray := prog_12_method_123_code
def yX10_copy : MethodName := ⟨RX10, "copy", "(II)I"⟩
abbrev cX10_becomesLaid : ByteArray := prog_12_method_124_code
def yX10_becomesLaid : MethodName := ⟨RX10, "becomesLaid", "(I)V"⟩
abbrev cX10_turn : ByteArray := prog_12_method_125_code
def yX10_turn : MethodName := ⟨RX10, "turn", "(I)I"⟩
abbrev cX10_drop : ByteArray := prog_12_method_126_code
def yX10_drop : MethodName := ⟨RX10, "drop", "(II)I"⟩
abbrev cX10_grow : ByteArray := prog_12_method_127_code
def yX10_grow : MethodName := ⟨RX10, "grow", "(III)I"⟩
abbrev cX10_undo : ByteArray := prog_12_method_128_code
def yX10_undo : MethodName := ⟨RX10, "undo", "()I"⟩
abbrev cX10_image : ByteArray := prog_12_method_129_code
def yX10_image : MethodName := ⟨RX10, "image", "(I)Z"⟩
abbrev cX10_again : ByteArray := prog_12_method_130_code
def yX10_again : MethodName := ⟨RX10, "again", "(I)Z"⟩
def RJx145de : String := "java/io/Serializable"
def TJx145de : u_T := fun k => match k with
  | _ => ("", "", "", false)
def tyJx145de : Nat → FieldType := fun k => match k with
  | _ => .int
abbrev wsJx145de0 : List Cond := u_ws RJx145de TJx145de 0
theorem nmJx145de : ∀ a, a < 0 → ∀ b, b < 0 → a ≠ b → (TJx145de a).2.1 ≠ (TJx145de b).2.1 := by decide +kernel
theorem tyJx145de_ok : ∀ k, k < 0 → parseFieldDescriptor (TJx145de k).2.2.1 = some (tyJx145de k) := by decide +kernel
def RJx9f9b0 : String := "java/lang/CharSequence"
def TJx9f9b0 : u_T := fun k => match k with
  | _ => ("", "", "", false)
def tyJx9f9b0 : Nat → FieldType := fun k => match k with
  | _ => .int
abbrev wsJx9f9b00 : List Cond := u_ws RJx9f9b0 TJx9f9b0 0
theorem nmJx9f9b0 : ∀ a, a < 0 → ∀ b, b < 0 → a ≠ b → (TJx9f9b0 a).2.1 ≠ (TJx9f9b0 b).2.1 := by decide +kernel
theorem tyJx9f9b0_ok : ∀ k, k < 0 → parseFieldDescriptor (TJx9f9b0 k).2.2.1 = some (tyJx9f9b0 k) := by decide +kernel
def RJxb160c : String := "java/lang/Comparable"
def TJxb160c : u_T := fun k => match k with
  | _ => ("", "", "", false)
def tyJxb160c : Nat → FieldType := fun k => match k with
  | _ => .int
abbrev wsJxb160c0 : List Cond := u_ws RJxb160c TJxb160c 0
theorem nmJxb160c : ∀ a, a < 0 → ∀ b, b < 0 → a ≠ b → (TJxb160c a).2.1 ≠ (TJxb160c b).2.1 := by decide +kernel
theorem tyJxb160c_ok : ∀ k, k < 0 → parseFieldDescriptor (TJxb160c k).2.2.1 = some (tyJxb160c k) := by decide +kernel
def RJ6 : String := "java/lang/Integer"
def TJ6 : u_T := fun k => match k with
  | _ => ("", "", "", false)
def tyJ6 : Nat → FieldType := fun k => match k with
  | _ => .int
abbrev wsJ60 : List Cond := u_ws RJ6 TJ6 0
theorem nmJ6 : ∀ a, a < 0 → ∀ b, b < 0 → a ≠ b → (TJ6 a).2.1 ≠ (TJ6 b).2.1 := by decide +kernel
theorem tyJ6_ok : ∀ k, k < 0 → parseFieldDescriptor (TJ6 k).2.2.1 = some (tyJ6 k) := by decide +kernel
abbrev cJ6_compare_7cf53 : ByteArray := prog_17_method_40_code
def yJ6_compare_7cf53 : MethodName := ⟨RJ6, "compare", "(II)I"⟩
abbrev cJ6_numberOfTrailingZeros_0f7a4 : ByteArray := prog_17_method_48_code
def yJ6_numberOfTrailingZeros_0f7a4 : MethodName := ⟨RJ6, "numberOfTrailingZeros", "(I)I"⟩
abbrev cJ6_bitCount_0f7a4 : ByteArray := prog_17_method_49_code
def yJ6_bitCount_0f7a4 : MethodName := ⟨RJ6, "bitCount", "(I)I"⟩
def RJ9 : String := "java/lang/Math"
def TJ9 : u_T := fun k => match k with
  | _ => ("", "", "", false)
def tyJ9 : Nat → FieldType := fun k => match k with
  | _ => .int
abbrev wsJ90 : List Cond := u_ws RJ9 TJ9 0
theorem nmJ9 : ∀ a, a < 0 → ∀ b, b < 0 → a ≠ b → (TJ9 a).2.1 ≠ (TJ9 b).2.1 := by decide +kernel
theorem tyJ9_ok : ∀ k, k < 0 → parseFieldDescriptor (TJ9 k).2.2.1 = some (tyJ9 k) := by decide +kernel
abbrev cJ9_max_7cf53 : ByteArray := prog_18_method_65_code
def yJ9_max_7cf53 : MethodName := ⟨RJ9, "max", "(II)I"⟩
abbrev cJ9_min_7cf53 : ByteArray := prog_18_method_69_code
def yJ9_min_7cf53 : MethodName := ⟨RJ9, "min", "(II)I"⟩
def RJ0 : String := "java/lang/String"
def TJ0 : u_T := fun k => match k with
  | _ => ("", "", "", false)
def tyJ0 : Nat → FieldType := fun k => match k with
  | _ => .int
abbrev wsJ00 : List Cond := u_ws RJ0 TJ0 0
theorem nmJ0 : ∀ a, a < 0 → ∀ b, b < 0 → a ≠ b → (TJ0 a).2.1 ≠ (TJ0 b).2.1 := by decide +kernel
theorem tyJ0_ok : ∀ k, k < 0 → parseFieldDescriptor (TJ0 k).2.2.1 = some (tyJ0 k) := by decide +kernel
abbrev cJ0_length_8abf5 : ByteArray := prog_20_method_54_code
def yJ0_length_8abf5 : MethodName := ⟨RJ0, "length", "()I"⟩
abbrev cJ0_charAt_5068e : ByteArray := prog_20_method_56_code
def yJ0_charAt_5068e : MethodName := ⟨RJ0, "charAt", "(I)C"⟩
abbrev cJ0_coder_7d493 : ByteArray := prog_20_method_152_code
def yJ0_coder_7d493 : MethodName := ⟨RJ0, "coder", "()B"⟩
abbrev cJ0_isLatin1_aae02 : ByteArray := prog_20_method_154_code
def yJ0_isLatin1_aae02 : MethodName := ⟨RJ0, "isLatin1", "()Z"⟩
abbrev cJ0_checkIndex_df160 : ByteArray := prog_20_method_155_code
def yJ0_checkIndex_df160 : MethodName := ⟨RJ0, "checkIndex", "(II)V"⟩
def RJ1 : String := "java/lang/StringLatin1"
def TJ1 : u_T := fun k => match k with
  | _ => ("", "", "", false)
def tyJ1 : Nat → FieldType := fun k => match k with
  | _ => .int
abbrev wsJ10 : List Cond := u_ws RJ1 TJ1 0
theorem nmJ1 : ∀ a, a < 0 → ∀ b, b < 0 → a ≠ b → (TJ1 a).2.1 ≠ (TJ1 b).2.1 := by decide +kernel
theorem tyJ1_ok : ∀ k, k < 0 → parseFieldDescriptor (TJ1 k).2.2.1 = some (tyJ1 k) := by decide +kernel
abbrev cJ1_charAt_3b067 : ByteArray := prog_21_method_2_code
def yJ1_charAt_3b067 : MethodName := ⟨RJ1, "charAt", "([BI)C"⟩
def RJ2 : String := "java/lang/StringUTF16"
def TJ2 : u_T := fun k => match k with
  | _ => ("", "", "", false)
def tyJ2 : Nat → FieldType := fun k => match k with
  | _ => .int
abbrev wsJ20 : List Cond := u_ws RJ2 TJ2 0
theorem nmJ2 : ∀ a, a < 0 → ∀ b, b < 0 → a ≠ b → (TJ2 a).2.1 ≠ (TJ2 b).2.1 := by decide +kernel
theorem tyJ2_ok : ∀ k, k < 0 → parseFieldDescriptor (TJ2 k).2.2.1 = some (tyJ2 k) := by decide +kernel
abbrev cJ2_getChar_3b067 : ByteArray := prog_22_method_5_code
def yJ2_getChar_3b067 : MethodName := ⟨RJ2, "getChar", "([BI)C"⟩
abbrev cJ2_length_9d52b : ByteArray := prog_22_method_6_code
def yJ2_length_9d52b : MethodName := ⟨RJ2, "length", "([B)I"⟩
abbrev cJ2_charAt_3b067 : ByteArray := prog_22_method_83_code
def yJ2_charAt_3b067 : MethodName := ⟨RJ2, "charAt", "([BI)C"⟩
abbrev cJ2_checkIndex_2214a : ByteArray := prog_22_method_91_code
def yJ2_checkIndex_2214a : MethodName := ⟨RJ2, "checkIndex", "(I[B)V"⟩
def RJ10 : String := "java/lang/System"
def TJ10 : u_T := fun k => match k with
  | _ => ("", "", "", false)
def tyJ10 : Nat → FieldType := fun k => match k with
  | _ => .int
abbrev wsJ100 : List Cond := u_ws RJ10 TJ10 0
theorem nmJ10 : ∀ a, a < 0 → ∀ b, b < 0 → a ≠ b → (TJ10 a).2.1 ≠ (TJ10 b).2.1 := by decide +kernel
theorem tyJ10_ok : ∀ k, k < 0 → parseFieldDescriptor (TJ10 k).2.2.1 = some (tyJ10 k) := by decide +kernel
def RJxfd54e : String := "java/lang/constant/Constable"
def TJxfd54e : u_T := fun k => match k with
  | _ => ("", "", "", false)
def tyJxfd54e : Nat → FieldType := fun k => match k with
  | _ => .int
abbrev wsJxfd54e0 : List Cond := u_ws RJxfd54e TJxfd54e 0
theorem nmJxfd54e : ∀ a, a < 0 → ∀ b, b < 0 → a ≠ b → (TJxfd54e a).2.1 ≠ (TJxfd54e b).2.1 := by decide +kernel
theorem tyJxfd54e_ok : ∀ k, k < 0 → parseFieldDescriptor (TJxfd54e k).2.2.1 = some (tyJxfd54e k) := by decide +kernel
def RJx3cf43 : String := "java/lang/constant/ConstantDesc"
def TJx3cf43 : u_T := fun k => match k with
  | _ => ("", "", "", false)
def tyJx3cf43 : Nat → FieldType := fun k => match k with
  | _ => .int
abbrev wsJx3cf430 : List Cond := u_ws RJx3cf43 TJx3cf43 0
theorem nmJx3cf43 : ∀ a, a < 0 → ∀ b, b < 0 → a ≠ b → (TJx3cf43 a).2.1 ≠ (TJx3cf43 b).2.1 := by decide +kernel
theorem tyJx3cf43_ok : ∀ k, k < 0 → parseFieldDescriptor (TJx3cf43 k).2.2.1 = some (tyJx3cf43 k) := by decide +kernel
def RJ3 : String := "jdk/internal/util/Preconditions"
def TJ3 : u_T := fun k => match k with
  | _ => ("", "", "", false)
def tyJ3 : Nat → FieldType := fun k => match k with
  | _ => .int
abbrev wsJ30 : List Cond := u_ws RJ3 TJ3 0
theorem nmJ3 : ∀ a, a < 0 → ∀ b, b < 0 → a ≠ b → (TJ3 a).2.1 ≠ (TJ3 b).2.1 := by decide +kernel
theorem tyJ3_ok : ∀ k, k < 0 → parseFieldDescriptor (TJ3 k).2.2.1 = some (tyJ3 k) := by decide +kernel
abbrev cJ3_checkIndex_8e157 : ByteArray := prog_28_method_11_code
def yJ3_checkIndex_8e157 : MethodName := ⟨RJ3, "checkIndex", "(IILjava/util/function/BiFunction;)I"⟩
def RL : String := "GraphNamesLaw"
abbrev cL_row : ByteArray := method_3_code
def yL_row : MethodName := ⟨RL, "row", "(LGraphNames;II[J)I"⟩
abbrev cL_law : ByteArray := code
def yL_law : MethodName := ⟨RL, "law", "([I)Z"⟩
abbrev vwCl : List vw_C := [(RX0, TX0, 7), (RX1, TX1, 4), (RX2, TX2, 5), (RX3, TX3, 8), (RX4, TX4, 4), (RX5, TX5, 10), (RX6, TX6, 13), (RX7, TX7, 11), (RX9, TX9, 14), (RX10, TX10, 63)]
theorem inX0 : ∀ w ∈ wsX00, w ∈ lw_tbl := by decide +kernel
theorem inX1 : ∀ w ∈ wsX10, w ∈ lw_tbl := by decide +kernel
theorem inX2 : ∀ w ∈ wsX20, w ∈ lw_tbl := by decide +kernel
theorem inX3 : ∀ w ∈ wsX30, w ∈ lw_tbl := by decide +kernel
theorem inX4 : ∀ w ∈ wsX40, w ∈ lw_tbl := by decide +kernel
theorem inX5 : ∀ w ∈ wsX50, w ∈ lw_tbl := by decide +kernel
theorem inX6 : ∀ w ∈ wsX60, w ∈ lw_tbl := by decide +kernel
theorem inX7 : ∀ w ∈ wsX70, w ∈ lw_tbl := by decide +kernel
theorem inX8 : ∀ w ∈ wsX80, w ∈ lw_tbl := by decide +kernel
theorem inX9 : ∀ w ∈ wsX90, w ∈ lw_tbl := by decide +kernel
theorem inX10 : ∀ w ∈ wsX100, w ∈ lw_tbl := by decide +kernel
