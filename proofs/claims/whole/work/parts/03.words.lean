/-! words of the tables by their places -/
theorem w_0 : lw_tbl[0]? = some (.selects "GraphNames" (⟨"GraphNames", "at", "(I)LGraphNames$Graph;"⟩ : MethodName) (⟨"GraphNames", "at", "(I)LGraphNames$Graph;"⟩ : MethodName) : Cond) := by decide +kernel
theorem w_1 : lw_tbl[1]? = some (.selects "GraphNames" (⟨"GraphNames", "refused", "(I)I"⟩ : MethodName) (⟨"GraphNames", "refused", "(I)I"⟩ : MethodName) : Cond) := by decide +kernel
theorem w_2 : lw_tbl[2]? = some (.selects "GraphNames$Reader" (⟨"GraphNames$Reader", "step", "()V"⟩ : MethodName) (⟨"GraphNames$Reader", "step", "()V"⟩ : MethodName) : Cond) := by decide +kernel
theorem w_3 : lw_tbl[3]? = some (.selects "GraphNames$Reader" (⟨"GraphNames$Reader", "readSize", "()Z"⟩ : MethodName) (⟨"GraphNames$Reader", "readSize", "()Z"⟩ : MethodName) : Cond) := by decide +kernel
theorem w_4 : lw_tbl[4]? = some (.selects "GraphNames$Reader" (⟨"GraphNames$Reader", "isWord", "(Ljava/lang/String;)Z"⟩ : MethodName) (⟨"GraphNames$Reader", "isWord", "(Ljava/lang/String;)Z"⟩ : MethodName) : Cond) := by decide +kernel
theorem w_5 : lw_tbl[5]? = some (.selects "GraphNames$Reader" (⟨"GraphNames$Reader", "fails", "(I)Z"⟩ : MethodName) (⟨"GraphNames$Reader", "fails", "(I)Z"⟩ : MethodName) : Cond) := by decide +kernel
theorem w_6 : lw_tbl[6]? = some (.selects "GraphNames$Reader" (⟨"GraphNames$Reader", "digit", "()I"⟩ : MethodName) (⟨"GraphNames$Reader", "digit", "()I"⟩ : MethodName) : Cond) := by decide +kernel
theorem w_7 : lw_tbl[7]? = some (.selects "GraphNames$Reader" (⟨"GraphNames$Reader", "readLines", "()V"⟩ : MethodName) (⟨"GraphNames$Reader", "readLines", "()V"⟩ : MethodName) : Cond) := by decide +kernel
theorem w_8 : lw_tbl[8]? = some (.selects "GraphNames$Reader" (⟨"GraphNames$Reader", "readLine", "()Z"⟩ : MethodName) (⟨"GraphNames$Reader", "readLine", "()Z"⟩ : MethodName) : Cond) := by decide +kernel
theorem w_9 : lw_tbl[9]? = some (.selects "GraphNames$Reader" (⟨"GraphNames$Reader", "readPaint", "()Z"⟩ : MethodName) (⟨"GraphNames$Reader", "readPaint", "()Z"⟩ : MethodName) : Cond) := by decide +kernel
theorem w_10 : lw_tbl[10]? = some (.selects "GraphNames$Reader" (⟨"GraphNames$Reader", "isVertex", "()Z"⟩ : MethodName) (⟨"GraphNames$Reader", "isVertex", "()Z"⟩ : MethodName) : Cond) := by decide +kernel
theorem w_11 : lw_tbl[11]? = some (.selects "GraphNames$Reader" (⟨"GraphNames$Reader", "readLink", "()Z"⟩ : MethodName) (⟨"GraphNames$Reader", "readLink", "()Z"⟩ : MethodName) : Cond) := by decide +kernel
theorem w_12 : lw_tbl[12]? = some (.selects "GraphNames$Reader" (⟨"GraphNames$Reader", "joins", "(II)Z"⟩ : MethodName) (⟨"GraphNames$Reader", "joins", "(II)Z"⟩ : MethodName) : Cond) := by decide +kernel
theorem w_13 : lw_tbl[13]? = some (.selects "GraphNames$Reader" (⟨"GraphNames$Reader", "readChain", "(IZ)Z"⟩ : MethodName) (⟨"GraphNames$Reader", "readChain", "(IZ)Z"⟩ : MethodName) : Cond) := by decide +kernel
theorem w_14 : lw_tbl[14]? = some (.selects "GraphNames" (⟨"GraphNames", "answered", "(I)I"⟩ : MethodName) (⟨"GraphNames", "answered", "(I)I"⟩ : MethodName) : Cond) := by decide +kernel
theorem w_15 : lw_tbl[15]? = some (.selects "GraphNames$Cells" (⟨"GraphNames$Cells", "signOf", "(LGraphNames$Graph;I)J"⟩ : MethodName) (⟨"GraphNames$Cells", "signOf", "(LGraphNames$Graph;I)J"⟩ : MethodName) : Cond) := by decide +kernel
theorem w_16 : lw_tbl[16]? = some (.selects "GraphNames$Cells" (⟨"GraphNames$Cells", "split", "(I)V"⟩ : MethodName) (⟨"GraphNames$Cells", "split", "(I)V"⟩ : MethodName) : Cond) := by decide +kernel
theorem w_17 : lw_tbl[17]? = some (.selects "GraphNames$Search" (⟨"GraphNames$Search", "note", "(LGraphNames$Leaf;)V"⟩ : MethodName) (⟨"GraphNames$Search", "note", "(LGraphNames$Leaf;)V"⟩ : MethodName) : Cond) := by decide +kernel
theorem w_18 : lw_tbl[18]? = some (.selects "GraphNames$Search" (⟨"GraphNames$Search", "spread", "(II)I"⟩ : MethodName) (⟨"GraphNames$Search", "spread", "(II)I"⟩ : MethodName) : Cond) := by decide +kernel
theorem w_19 : lw_tbl[19]? = some (.selects "GraphNames$Search" (⟨"GraphNames$Search", "leavesAlone", "(II)Z"⟩ : MethodName) (⟨"GraphNames$Search", "leavesAlone", "(II)Z"⟩ : MethodName) : Cond) := by decide +kernel
theorem w_20 : lw_tbl[20]? = some (.selects "GraphNames$Search" (⟨"GraphNames$Search", "imageOf", "(II)I"⟩ : MethodName) (⟨"GraphNames$Search", "imageOf", "(II)I"⟩ : MethodName) : Cond) := by decide +kernel
theorem w_21 : lw_tbl[21]? = some (.selects "GraphNames" (⟨"GraphNames", "searchOf", "(I)LGraphNames$Search;"⟩ : MethodName) (⟨"GraphNames", "searchOf", "(I)LGraphNames$Search;"⟩ : MethodName) : Cond) := by decide +kernel
theorem w_22 : lw_tbl[22]? = some (.selects "GraphNames$Pairing" (⟨"GraphNames$Pairing", "send", "(II)V"⟩ : MethodName) (⟨"GraphNames$Pairing", "send", "(II)V"⟩ : MethodName) : Cond) := by decide +kernel
theorem w_23 : lw_tbl[23]? = some (.selects "GraphNames$Pairing" (⟨"GraphNames$Pairing", "note", "()V"⟩ : MethodName) (⟨"GraphNames$Pairing", "note", "()V"⟩ : MethodName) : Cond) := by decide +kernel
theorem w_24 : lw_tbl[24]? = some (.selects "GraphNames$Pairing" (⟨"GraphNames$Pairing", "fits", "(II)Z"⟩ : MethodName) (⟨"GraphNames$Pairing", "fits", "(II)Z"⟩ : MethodName) : Cond) := by decide +kernel
theorem w_25 : lw_tbl[25]? = some (.selects "GraphNames$Pairing" (⟨"GraphNames$Pairing", "unlike", "(II)I"⟩ : MethodName) (⟨"GraphNames$Pairing", "unlike", "(II)I"⟩ : MethodName) : Cond) := by decide +kernel
theorem w_26 : lw_tbl[26]? = some (.selects "GraphNames$Pairing" (⟨"GraphNames$Pairing", "weigh", "(III)V"⟩ : MethodName) (⟨"GraphNames$Pairing", "weigh", "(III)V"⟩ : MethodName) : Cond) := by decide +kernel
theorem w_27 : lw_tbl[27]? = some (.selects "GraphNames" (⟨"GraphNames", "toldApart", "(LGraphNames$Graph;LGraphNames$Graph;)I"⟩ : MethodName) (⟨"GraphNames", "toldApart", "(LGraphNames$Graph;LGraphNames$Graph;)I"⟩ : MethodName) : Cond) := by decide +kernel
theorem w_28 : lw_tbl[28]? = some (.selects "GraphNames" (⟨"GraphNames", "nameCards", "(LGraphNames$Graph;)V"⟩ : MethodName) (⟨"GraphNames", "nameCards", "(LGraphNames$Graph;)V"⟩ : MethodName) : Cond) := by decide +kernel
theorem w_29 : lw_tbl[29]? = some (.selects "GraphNames" (⟨"GraphNames", "unlikeCards", "(I)I"⟩ : MethodName) (⟨"GraphNames", "unlikeCards", "(I)I"⟩ : MethodName) : Cond) := by decide +kernel
theorem w_30 : lw_tbl[30]? = some (.selects "GraphNames" (⟨"GraphNames", "cardsLike", "(II)I"⟩ : MethodName) (⟨"GraphNames", "cardsLike", "(II)I"⟩ : MethodName) : Cond) := by decide +kernel
theorem w_31 : lw_tbl[31]? = some (.selects "GraphNames" (⟨"GraphNames", "cellsWith", "(LGraphNames$Graph;I)I"⟩ : MethodName) (⟨"GraphNames", "cellsWith", "(LGraphNames$Graph;I)I"⟩ : MethodName) : Cond) := by decide +kernel
theorem w_32 : lw_tbl[32]? = some (.selects "GraphNames" (⟨"GraphNames", "fewestApart", "(LGraphNames$Graph;)I"⟩ : MethodName) (⟨"GraphNames", "fewestApart", "(LGraphNames$Graph;)I"⟩ : MethodName) : Cond) := by decide +kernel
theorem w_34 : lw_tbl[34]? = some (.selects "GraphNamesModel" (⟨"GraphNamesModel", "begins", "()V"⟩ : MethodName) (⟨"GraphNamesModel", "begins", "()V"⟩ : MethodName) : Cond) := by decide +kernel
theorem w_35 : lw_tbl[35]? = some (.selects "GraphNamesModel" (⟨"GraphNamesModel", "refuse", "(ZI)Z"⟩ : MethodName) (⟨"GraphNamesModel", "refuse", "(ZI)Z"⟩ : MethodName) : Cond) := by decide +kernel
theorem w_36 : lw_tbl[36]? = some (.selects "GraphNamesModel" (⟨"GraphNamesModel", "reads", "(I)V"⟩ : MethodName) (⟨"GraphNamesModel", "reads", "(I)V"⟩ : MethodName) : Cond) := by decide +kernel
theorem w_37 : lw_tbl[37]? = some (.selects "GraphNamesModel" (⟨"GraphNamesModel", "token", "()V"⟩ : MethodName) (⟨"GraphNamesModel", "token", "()V"⟩ : MethodName) : Cond) := by decide +kernel
theorem w_38 : lw_tbl[38]? = some (.selects "GraphNamesModel" (⟨"GraphNamesModel", "seen", "(I)I"⟩ : MethodName) (⟨"GraphNamesModel", "seen", "(I)I"⟩ : MethodName) : Cond) := by decide +kernel
theorem w_39 : lw_tbl[39]? = some (.selects "GraphNamesModel" (⟨"GraphNamesModel", "isWord", "(I)Z"⟩ : MethodName) (⟨"GraphNamesModel", "isWord", "(I)Z"⟩ : MethodName) : Cond) := by decide +kernel
theorem w_40 : lw_tbl[40]? = some (.selects "GraphNamesModel" (⟨"GraphNamesModel", "fails", "(I)V"⟩ : MethodName) (⟨"GraphNamesModel", "fails", "(I)V"⟩ : MethodName) : Cond) := by decide +kernel
theorem w_41 : lw_tbl[41]? = some (.selects "GraphNamesModel" (⟨"GraphNamesModel", "goesOn", "()V"⟩ : MethodName) (⟨"GraphNamesModel", "goesOn", "()V"⟩ : MethodName) : Cond) := by decide +kernel
theorem w_42 : lw_tbl[42]? = some (.selects "GraphNamesModel" (⟨"GraphNamesModel", "takes", "(II)I"⟩ : MethodName) (⟨"GraphNamesModel", "takes", "(II)I"⟩ : MethodName) : Cond) := by decide +kernel
theorem w_43 : lw_tbl[43]? = some (.selects "GraphNamesModel" (⟨"GraphNamesModel", "hold", "(II)I"⟩ : MethodName) (⟨"GraphNamesModel", "hold", "(II)I"⟩ : MethodName) : Cond) := by decide +kernel
theorem w_44 : lw_tbl[44]? = some (.selects "GraphNamesModel" (⟨"GraphNamesModel", "line", "()V"⟩ : MethodName) (⟨"GraphNamesModel", "line", "()V"⟩ : MethodName) : Cond) := by decide +kernel
theorem w_45 : lw_tbl[45]? = some (.selects "GraphNamesModel" (⟨"GraphNamesModel", "paintLine", "()V"⟩ : MethodName) (⟨"GraphNamesModel", "paintLine", "()V"⟩ : MethodName) : Cond) := by decide +kernel
theorem w_46 : lw_tbl[46]? = some (.selects "GraphNamesModel" (⟨"GraphNamesModel", "readVertex", "()I"⟩ : MethodName) (⟨"GraphNamesModel", "readVertex", "()I"⟩ : MethodName) : Cond) := by decide +kernel
theorem w_47 : lw_tbl[47]? = some (.selects "GraphNamesModel" (⟨"GraphNamesModel", "linkLine", "()V"⟩ : MethodName) (⟨"GraphNamesModel", "linkLine", "()V"⟩ : MethodName) : Cond) := by decide +kernel
theorem w_48 : lw_tbl[48]? = some (.selects "GraphNamesModel" (⟨"GraphNamesModel", "readLinked", "(I)I"⟩ : MethodName) (⟨"GraphNamesModel", "readLinked", "(I)I"⟩ : MethodName) : Cond) := by decide +kernel
theorem w_49 : lw_tbl[49]? = some (.selects "GraphNamesModel" (⟨"GraphNamesModel", "isRead", "(II)Z"⟩ : MethodName) (⟨"GraphNamesModel", "isRead", "(II)Z"⟩ : MethodName) : Cond) := by decide +kernel
theorem w_50 : lw_tbl[50]? = some (.selects "GraphNamesModel" (⟨"GraphNamesModel", "linksRead", "(III)V"⟩ : MethodName) (⟨"GraphNamesModel", "linksRead", "(III)V"⟩ : MethodName) : Cond) := by decide +kernel
theorem w_51 : lw_tbl[51]? = some (.selects "GraphNamesModel" (⟨"GraphNamesModel", "isDigit", "()Z"⟩ : MethodName) (⟨"GraphNamesModel", "isDigit", "()Z"⟩ : MethodName) : Cond) := by decide +kernel
theorem w_52 : lw_tbl[52]? = some (.selects "GraphNamesModel" (⟨"GraphNamesModel", "pathLine", "(Z)V"⟩ : MethodName) (⟨"GraphNamesModel", "pathLine", "(Z)V"⟩ : MethodName) : Cond) := by decide +kernel
theorem w_53 : lw_tbl[53]? = some (.selects "GraphNamesModel" (⟨"GraphNamesModel", "keeps", "()V"⟩ : MethodName) (⟨"GraphNamesModel", "keeps", "()V"⟩ : MethodName) : Cond) := by decide +kernel
theorem w_54 : lw_tbl[54]? = some (.selects "GraphNamesModel" (⟨"GraphNamesModel", "manyOf", "(I)I"⟩ : MethodName) (⟨"GraphNamesModel", "manyOf", "(I)I"⟩ : MethodName) : Cond) := by decide +kernel
theorem w_55 : lw_tbl[55]? = some (.selects "GraphNamesModel" (⟨"GraphNamesModel", "linksOf", "(I)I"⟩ : MethodName) (⟨"GraphNamesModel", "linksOf", "(I)I"⟩ : MethodName) : Cond) := by decide +kernel
theorem w_56 : lw_tbl[56]? = some (.selects "GraphNamesModel" (⟨"GraphNamesModel", "rowOf", "(II)I"⟩ : MethodName) (⟨"GraphNamesModel", "rowOf", "(II)I"⟩ : MethodName) : Cond) := by decide +kernel
theorem w_57 : lw_tbl[57]? = some (.selects "GraphNamesModel" (⟨"GraphNamesModel", "kindOf", "(III)I"⟩ : MethodName) (⟨"GraphNamesModel", "kindOf", "(III)I"⟩ : MethodName) : Cond) := by decide +kernel
theorem w_58 : lw_tbl[58]? = some (.selects "GraphNamesModel" (⟨"GraphNamesModel", "coloursOf", "(I)I"⟩ : MethodName) (⟨"GraphNamesModel", "coloursOf", "(I)I"⟩ : MethodName) : Cond) := by decide +kernel
theorem w_59 : lw_tbl[59]? = some (.selects "GraphNamesModel" (⟨"GraphNamesModel", "colourOf", "(II)I"⟩ : MethodName) (⟨"GraphNamesModel", "colourOf", "(II)I"⟩ : MethodName) : Cond) := by decide +kernel
theorem w_60 : lw_tbl[60]? = some (.selects "GraphNamesModel" (⟨"GraphNamesModel", "isVertex", "(II)Z"⟩ : MethodName) (⟨"GraphNamesModel", "isVertex", "(II)Z"⟩ : MethodName) : Cond) := by decide +kernel
theorem w_61 : lw_tbl[61]? = some (.selects "GraphNamesModel" (⟨"GraphNamesModel", "lays", "(I)V"⟩ : MethodName) (⟨"GraphNamesModel", "lays", "(I)V"⟩ : MethodName) : Cond) := by decide +kernel
theorem w_62 : lw_tbl[62]? = some (.selects "GraphNamesModel" (⟨"GraphNamesModel", "laysColours", "()V"⟩ : MethodName) (⟨"GraphNamesModel", "laysColours", "()V"⟩ : MethodName) : Cond) := by decide +kernel
theorem w_63 : lw_tbl[63]? = some (.selects "GraphNamesModel" (⟨"GraphNamesModel", "refines", "()I"⟩ : MethodName) (⟨"GraphNamesModel", "refines", "()I"⟩ : MethodName) : Cond) := by decide +kernel
theorem w_64 : lw_tbl[64]? = some (.selects "GraphNamesModel" (⟨"GraphNamesModel", "goesRound", "()Z"⟩ : MethodName) (⟨"GraphNamesModel", "goesRound", "()Z"⟩ : MethodName) : Cond) := by decide +kernel
theorem w_65 : lw_tbl[65]? = some (.selects "GraphNamesModel" (⟨"GraphNamesModel", "laysSigns", "()V"⟩ : MethodName) (⟨"GraphNamesModel", "laysSigns", "()V"⟩ : MethodName) : Cond) := by decide +kernel
theorem w_66 : lw_tbl[66]? = some (.selects "GraphNamesModel" (⟨"GraphNamesModel", "rankOf", "(I)I"⟩ : MethodName) (⟨"GraphNamesModel", "rankOf", "(I)I"⟩ : MethodName) : Cond) := by decide +kernel
theorem w_67 : lw_tbl[67]? = some (.selects "GraphNamesModel" (⟨"GraphNamesModel", "targetCell", "()I"⟩ : MethodName) (⟨"GraphNamesModel", "targetCell", "()I"⟩ : MethodName) : Cond) := by decide +kernel
theorem w_68 : lw_tbl[68]? = some (.selects "GraphNamesModel" (⟨"GraphNamesModel", "sizeOf", "(I)I"⟩ : MethodName) (⟨"GraphNamesModel", "sizeOf", "(I)I"⟩ : MethodName) : Cond) := by decide +kernel
theorem w_69 : lw_tbl[69]? = some (.selects "GraphNamesModel" (⟨"GraphNamesModel", "setOf", "(I)I"⟩ : MethodName) (⟨"GraphNamesModel", "setOf", "(I)I"⟩ : MethodName) : Cond) := by decide +kernel
theorem w_70 : lw_tbl[70]? = some (.selects "GraphNamesModel" (⟨"GraphNamesModel", "starts", "()I"⟩ : MethodName) (⟨"GraphNamesModel", "starts", "()I"⟩ : MethodName) : Cond) := by decide +kernel
theorem w_71 : lw_tbl[71]? = some (.selects "GraphNamesModel" (⟨"GraphNamesModel", "setsApart", "(I)V"⟩ : MethodName) (⟨"GraphNamesModel", "setsApart", "(I)V"⟩ : MethodName) : Cond) := by decide +kernel
theorem w_72 : lw_tbl[72]? = some (.selects "GraphNamesModel" (⟨"GraphNamesModel", "markOf", "(I)I"⟩ : MethodName) (⟨"GraphNamesModel", "markOf", "(I)I"⟩ : MethodName) : Cond) := by decide +kernel
theorem w_73 : lw_tbl[73]? = some (.selects "GraphNamesModel" (⟨"GraphNamesModel", "isSet", "(II)Z"⟩ : MethodName) (⟨"GraphNamesModel", "isSet", "(II)Z"⟩ : MethodName) : Cond) := by decide +kernel
theorem w_74 : lw_tbl[74]? = some (.selects "GraphNamesModel" (⟨"GraphNamesModel", "cellsBy", "(I)I"⟩ : MethodName) (⟨"GraphNamesModel", "cellsBy", "(I)I"⟩ : MethodName) : Cond) := by decide +kernel
theorem w_75 : lw_tbl[75]? = some (.selects "GraphNamesModel" (⟨"GraphNamesModel", "walksAll", "()V"⟩ : MethodName) (⟨"GraphNamesModel", "walksAll", "()V"⟩ : MethodName) : Cond) := by decide +kernel
theorem w_76 : lw_tbl[76]? = some (.selects "GraphNamesModel" (⟨"GraphNamesModel", "walks", "(I)V"⟩ : MethodName) (⟨"GraphNamesModel", "walks", "(I)V"⟩ : MethodName) : Cond) := by decide +kernel
theorem w_77 : lw_tbl[77]? = some (.selects "GraphNamesModel" (⟨"GraphNamesModel", "laysCode", "()V"⟩ : MethodName) (⟨"GraphNamesModel", "laysCode", "()V"⟩ : MethodName) : Cond) := by decide +kernel
theorem w_78 : lw_tbl[78]? = some (.selects "GraphNamesModel" (⟨"GraphNamesModel", "vertexIn", "(I)I"⟩ : MethodName) (⟨"GraphNamesModel", "vertexIn", "(I)I"⟩ : MethodName) : Cond) := by decide +kernel
theorem w_79 : lw_tbl[79]? = some (.selects "GraphNamesModel" (⟨"GraphNamesModel", "comparesBest", "(I)I"⟩ : MethodName) (⟨"GraphNamesModel", "comparesBest", "(I)I"⟩ : MethodName) : Cond) := by decide +kernel
theorem w_80 : lw_tbl[80]? = some (.selects "GraphNamesModel" (⟨"GraphNamesModel", "codeLong", "()I"⟩ : MethodName) (⟨"GraphNamesModel", "codeLong", "()I"⟩ : MethodName) : Cond) := by decide +kernel
theorem w_81 : lw_tbl[81]? = some (.selects "GraphNamesModel" (⟨"GraphNamesModel", "isBest", "(I)V"⟩ : MethodName) (⟨"GraphNamesModel", "isBest", "(I)V"⟩ : MethodName) : Cond) := by decide +kernel
theorem w_82 : lw_tbl[82]? = some (.selects "GraphNamesModel" (⟨"GraphNamesModel", "saves", "(I)V"⟩ : MethodName) (⟨"GraphNamesModel", "saves", "(I)V"⟩ : MethodName) : Cond) := by decide +kernel
theorem w_83 : lw_tbl[83]? = some (.selects "GraphNamesModel" (⟨"GraphNamesModel", "comesBack", "(II)V"⟩ : MethodName) (⟨"GraphNamesModel", "comesBack", "(II)V"⟩ : MethodName) : Cond) := by decide +kernel
theorem w_84 : lw_tbl[84]? = some (.selects "GraphNamesModel" (⟨"GraphNamesModel", "keepsName", "(I)V"⟩ : MethodName) (⟨"GraphNamesModel", "keepsName", "(I)V"⟩ : MethodName) : Cond) := by decide +kernel
theorem w_85 : lw_tbl[85]? = some (.selects "GraphNamesModel" (⟨"GraphNamesModel", "searchesAll", "()V"⟩ : MethodName) (⟨"GraphNamesModel", "searchesAll", "()V"⟩ : MethodName) : Cond) := by decide +kernel
theorem w_86 : lw_tbl[86]? = some (.selects "GraphNamesModel" (⟨"GraphNamesModel", "searches", "(I)V"⟩ : MethodName) (⟨"GraphNamesModel", "searches", "(I)V"⟩ : MethodName) : Cond) := by decide +kernel
theorem w_87 : lw_tbl[87]? = some (.selects "GraphNamesModel" (⟨"GraphNamesModel", "comesToLeaf", "(I)V"⟩ : MethodName) (⟨"GraphNamesModel", "comesToLeaf", "(I)V"⟩ : MethodName) : Cond) := by decide +kernel
theorem w_88 : lw_tbl[88]? = some (.selects "GraphNamesModel" (⟨"GraphNamesModel", "isFirst", "(I)V"⟩ : MethodName) (⟨"GraphNamesModel", "isFirst", "(I)V"⟩ : MethodName) : Cond) := by decide +kernel
theorem w_89 : lw_tbl[89]? = some (.selects "GraphNamesModel" (⟨"GraphNamesModel", "isLikeFirst", "(I)Z"⟩ : MethodName) (⟨"GraphNamesModel", "isLikeFirst", "(I)Z"⟩ : MethodName) : Cond) := by decide +kernel
theorem w_90 : lw_tbl[90]? = some (.selects "GraphNamesModel" (⟨"GraphNamesModel", "generates", "([I)V"⟩ : MethodName) (⟨"GraphNamesModel", "generates", "([I)V"⟩ : MethodName) : Cond) := by decide +kernel
theorem w_91 : lw_tbl[91]? = some (.selects "GraphNamesModel" (⟨"GraphNamesModel", "comesTo", "(III)Z"⟩ : MethodName) (⟨"GraphNamesModel", "comesTo", "(III)Z"⟩ : MethodName) : Cond) := by decide +kernel
theorem w_92 : lw_tbl[92]? = some (.selects "GraphNamesModel" (⟨"GraphNamesModel", "leavesPath", "(II)Z"⟩ : MethodName) (⟨"GraphNamesModel", "leavesPath", "(II)Z"⟩ : MethodName) : Cond) := by decide +kernel
theorem w_93 : lw_tbl[93]? = some (.selects "GraphNamesModel" (⟨"GraphNamesModel", "sentSet", "(II)I"⟩ : MethodName) (⟨"GraphNamesModel", "sentSet", "(II)I"⟩ : MethodName) : Cond) := by decide +kernel
theorem w_94 : lw_tbl[94]? = some (.selects "GraphNamesModel" (⟨"GraphNamesModel", "isCut", "(I)Z"⟩ : MethodName) (⟨"GraphNamesModel", "isCut", "(I)Z"⟩ : MethodName) : Cond) := by decide +kernel
theorem w_95 : lw_tbl[95]? = some (.selects "GraphNamesModel" (⟨"GraphNamesModel", "laysMaps", "(III)V"⟩ : MethodName) (⟨"GraphNamesModel", "laysMaps", "(III)V"⟩ : MethodName) : Cond) := by decide +kernel
theorem w_96 : lw_tbl[96]? = some (.selects "GraphNamesModel" (⟨"GraphNamesModel", "laysOther", "()V"⟩ : MethodName) (⟨"GraphNamesModel", "laysOther", "()V"⟩ : MethodName) : Cond) := by decide +kernel
theorem w_97 : lw_tbl[97]? = some (.selects "GraphNamesModel" (⟨"GraphNamesModel", "mapsAll", "(I)V"⟩ : MethodName) (⟨"GraphNamesModel", "mapsAll", "(I)V"⟩ : MethodName) : Cond) := by decide +kernel
theorem w_98 : lw_tbl[98]? = some (.selects "GraphNamesModel" (⟨"GraphNamesModel", "mapsFrom", "(I)V"⟩ : MethodName) (⟨"GraphNamesModel", "mapsFrom", "(I)V"⟩ : MethodName) : Cond) := by decide +kernel
theorem w_99 : lw_tbl[99]? = some (.selects "GraphNamesModel" (⟨"GraphNamesModel", "fits", "(II)Z"⟩ : MethodName) (⟨"GraphNamesModel", "fits", "(II)Z"⟩ : MethodName) : Cond) := by decide +kernel
theorem w_100 : lw_tbl[100]? = some (.selects "GraphNamesModel" (⟨"GraphNamesModel", "changesFrom", "(III)V"⟩ : MethodName) (⟨"GraphNamesModel", "changesFrom", "(III)V"⟩ : MethodName) : Cond) := by decide +kernel
theorem w_101 : lw_tbl[101]? = some (.selects "GraphNamesModel" (⟨"GraphNamesModel", "toldBy", "()I"⟩ : MethodName) (⟨"GraphNamesModel", "toldBy", "()I"⟩ : MethodName) : Cond) := by decide +kernel
theorem w_102 : lw_tbl[102]? = some (.selects "GraphNamesModel" (⟨"GraphNamesModel", "areColoursAlike", "()Z"⟩ : MethodName) (⟨"GraphNamesModel", "areColoursAlike", "()Z"⟩ : MethodName) : Cond) := by decide +kernel
theorem w_103 : lw_tbl[103]? = some (.selects "GraphNamesModel" (⟨"GraphNamesModel", "laysOtherSigns", "()V"⟩ : MethodName) (⟨"GraphNamesModel", "laysOtherSigns", "()V"⟩ : MethodName) : Cond) := by decide +kernel
theorem w_104 : lw_tbl[104]? = some (.selects "GraphNamesModel" (⟨"GraphNamesModel", "areSignsAlike", "()Z"⟩ : MethodName) (⟨"GraphNamesModel", "areSignsAlike", "()Z"⟩ : MethodName) : Cond) := by decide +kernel
theorem w_105 : lw_tbl[105]? = some (.selects "GraphNamesModel" (⟨"GraphNamesModel", "laysOtherCells", "()V"⟩ : MethodName) (⟨"GraphNamesModel", "laysOtherCells", "()V"⟩ : MethodName) : Cond) := by decide +kernel
theorem w_106 : lw_tbl[106]? = some (.selects "GraphNamesModel" (⟨"GraphNamesModel", "laysCard", "(II)V"⟩ : MethodName) (⟨"GraphNamesModel", "laysCard", "(II)V"⟩ : MethodName) : Cond) := by decide +kernel
theorem w_107 : lw_tbl[107]? = some (.selects "GraphNamesModel" (⟨"GraphNamesModel", "laysTurned", "(I)V"⟩ : MethodName) (⟨"GraphNamesModel", "laysTurned", "(I)V"⟩ : MethodName) : Cond) := by decide +kernel
theorem w_108 : lw_tbl[108]? = some (.selects "GraphNamesModel" (⟨"GraphNamesModel", "putsKind", "(IIII)V"⟩ : MethodName) (⟨"GraphNamesModel", "putsKind", "(IIII)V"⟩ : MethodName) : Cond) := by decide +kernel
theorem w_109 : lw_tbl[109]? = some (.selects "GraphNamesModel" (⟨"GraphNamesModel", "swaps", "(III)V"⟩ : MethodName) (⟨"GraphNamesModel", "swaps", "(III)V"⟩ : MethodName) : Cond) := by decide +kernel
theorem w_110 : lw_tbl[110]? = some (.selects "GraphNamesModel" (⟨"GraphNamesModel", "draw", "(I)I"⟩ : MethodName) (⟨"GraphNamesModel", "draw", "(I)I"⟩ : MethodName) : Cond) := by decide +kernel
theorem w_111 : lw_tbl[111]? = some (.selects "GraphNamesModel" (⟨"GraphNamesModel", "becomesLaid", "(I)V"⟩ : MethodName) (⟨"GraphNamesModel", "becomesLaid", "(I)V"⟩ : MethodName) : Cond) := by decide +kernel
theorem w_113 : lw_tbl[113]? = some (.initialized "GraphNames" : Cond) := by decide +kernel
theorem w_114 : lw_tbl[114]? = some (.initialized "GraphNames$Reader" : Cond) := by decide +kernel
theorem w_115 : lw_tbl[115]? = some (.initialized "GraphNames$Graph" : Cond) := by decide +kernel
theorem w_116 : lw_tbl[116]? = some (.initialized "GraphNames$Past" : Cond) := by decide +kernel
theorem w_117 : lw_tbl[117]? = some (.initialized "GraphNames$Cells" : Cond) := by decide +kernel
theorem w_118 : lw_tbl[118]? = some (.initialized "GraphNames$Pairing" : Cond) := by decide +kernel
theorem w_119 : lw_tbl[119]? = some (.initialized "GraphNames$Walk" : Cond) := by decide +kernel
theorem w_120 : lw_tbl[120]? = some (.initialized "GraphNames$Search" : Cond) := by decide +kernel
theorem w_121 : lw_tbl[121]? = some (.initialized "GraphNames$Leaf" : Cond) := by decide +kernel
theorem w_122 : lw_tbl[122]? = some (.initialized "GraphNames$Tree" : Cond) := by decide +kernel
theorem w_123 : lw_tbl[123]? = some (.initialized "GraphNamesModel" : Cond) := by decide +kernel
theorem w_124 : lw_tbl[124]? = some (.initialized "java/lang/String" : Cond) := by decide +kernel
theorem w_125 : lw_tbl[125]? = some (.initialized "java/lang/StringLatin1" : Cond) := by decide +kernel
theorem w_126 : lw_tbl[126]? = some (.initialized "jdk/internal/util/Preconditions" : Cond) := by decide +kernel
theorem w_127 : lw_tbl[127]? = some (.initialized "java/lang/StringUTF16" : Cond) := by decide +kernel
theorem w_129 : lw_tbl[129]? = some (.initialized "java/lang/Math" : Cond) := by decide +kernel
theorem w_130 : lw_tbl[130]? = some (.initialized "java/lang/Integer" : Cond) := by decide +kernel
theorem w_137 : lw_tbl[137]? = some (.methodLink "GraphNamesLaw" (15) (⟨"GraphNames", "<init>", "()V"⟩ : MethodName) : Cond) := by decide +kernel
theorem w_138 : lw_tbl[138]? = some (.instanceMethod (⟨"GraphNames", "<init>", "()V"⟩ : MethodName) : Cond) := by decide +kernel
theorem w_139 : lw_tbl[139]? = some (.code (⟨"GraphNames", "<init>", "()V"⟩) prog_1_method_1_code 2 none : Cond) := by decide +kernel
theorem w_151 : lw_tbl[151]? = some (.methodLinkNest "GraphNames" (29) (⟨"GraphNames$Reader", "<init>", "()V"⟩ : MethodName) "GraphNames" : Cond) := by decide +kernel
theorem w_152 : lw_tbl[152]? = some (.instanceMethod (⟨"GraphNames$Reader", "<init>", "()V"⟩ : MethodName) : Cond) := by decide +kernel
theorem w_153 : lw_tbl[153]? = some (.code (⟨"GraphNames$Reader", "<init>", "()V"⟩) prog_7_method_1_code 1 none : Cond) := by decide +kernel
theorem w_157 : lw_tbl[157]? = some (.methodLinkNest "GraphNames$Reader" (23) (⟨"GraphNames$Graph", "<init>", "()V"⟩ : MethodName) "GraphNames" : Cond) := by decide +kernel
theorem w_158 : lw_tbl[158]? = some (.instanceMethod (⟨"GraphNames$Graph", "<init>", "()V"⟩ : MethodName) : Cond) := by decide +kernel
theorem w_159 : lw_tbl[159]? = some (.code (⟨"GraphNames$Graph", "<init>", "()V"⟩) prog_3_method_1_code 1 none : Cond) := by decide +kernel
theorem w_163 : lw_tbl[163]? = some (.fieldLink "GraphNames$Graph" (9) "GraphNames$Graph" "count" "I" : Cond) := by decide +kernel
theorem w_164 : lw_tbl[164]? = some (.fieldLink "GraphNames$Leaf" (28) "GraphNames$Graph" "count" "I" : Cond) := by decide +kernel
theorem w_165 : lw_tbl[165]? = some (.fieldLink "GraphNames$Pairing" (45) "GraphNames$Graph" "count" "I" : Cond) := by decide +kernel
theorem w_166 : lw_tbl[166]? = some (.fieldLink "GraphNames$Cells" (42) "GraphNames$Graph" "count" "I" : Cond) := by decide +kernel
theorem w_167 : lw_tbl[167]? = some (.fieldLink "GraphNames" (119) "GraphNames$Graph" "count" "I" : Cond) := by decide +kernel
theorem w_168 : lw_tbl[168]? = some (.fieldLink "GraphNames$Search" (47) "GraphNames$Graph" "count" "I" : Cond) := by decide +kernel
theorem w_169 : lw_tbl[169]? = some (.fieldLink "GraphNames$Walk" (88) "GraphNames$Graph" "count" "I" : Cond) := by decide +kernel
theorem w_170 : lw_tbl[170]? = some (.fieldLink "GraphNames$Graph" (15) "GraphNames$Graph" "colours" "[I" : Cond) := by decide +kernel
theorem w_171 : lw_tbl[171]? = some (.fieldLink "GraphNames$Leaf" (44) "GraphNames$Graph" "colours" "[I" : Cond) := by decide +kernel
theorem w_172 : lw_tbl[172]? = some (.fieldLink "GraphNames$Cells" (45) "GraphNames$Graph" "colours" "[I" : Cond) := by decide +kernel
theorem w_173 : lw_tbl[173]? = some (.fieldLink "GraphNames$Pairing" (66) "GraphNames$Graph" "colours" "[I" : Cond) := by decide +kernel
theorem w_174 : lw_tbl[174]? = some (.fieldLink "GraphNames" (143) "GraphNames$Graph" "colours" "[I" : Cond) := by decide +kernel
theorem w_175 : lw_tbl[175]? = some (.fieldLink "GraphNames$Reader" (103) "GraphNames$Graph" "colours" "[I" : Cond) := by decide +kernel
theorem w_176 : lw_tbl[176]? = some (.fieldLink "GraphNames$Graph" (21) "GraphNames$Graph" "kinds" "[[I" : Cond) := by decide +kernel
theorem w_177 : lw_tbl[177]? = some (.fieldLink "GraphNames$Leaf" (47) "GraphNames$Graph" "kinds" "[[I" : Cond) := by decide +kernel
theorem w_178 : lw_tbl[178]? = some (.fieldLink "GraphNames$Pairing" (69) "GraphNames$Graph" "kinds" "[[I" : Cond) := by decide +kernel
theorem w_179 : lw_tbl[179]? = some (.fieldLink "GraphNames" (147) "GraphNames$Graph" "kinds" "[[I" : Cond) := by decide +kernel
theorem w_180 : lw_tbl[180]? = some (.fieldLink "GraphNames$Reader" (113) "GraphNames$Graph" "kinds" "[[I" : Cond) := by decide +kernel
theorem w_181 : lw_tbl[181]? = some (.fieldLink "GraphNames$Graph" (24) "GraphNames$Graph" "linked" "[[I" : Cond) := by decide +kernel
theorem w_182 : lw_tbl[182]? = some (.fieldLink "GraphNames$Cells" (66) "GraphNames$Graph" "linked" "[[I" : Cond) := by decide +kernel
theorem w_183 : lw_tbl[183]? = some (.fieldLink "GraphNames" (151) "GraphNames$Graph" "linked" "[[I" : Cond) := by decide +kernel
theorem w_194 : lw_tbl[194]? = some (.fieldLink "GraphNames$Reader" (9) "GraphNames$Reader" "held" "I" : Cond) := by decide +kernel
theorem w_195 : lw_tbl[195]? = some (.fieldLink "GraphNames" (87) "GraphNames$Reader" "held" "I" : Cond) := by decide +kernel
theorem w_196 : lw_tbl[196]? = some (.fieldLink "GraphNames$Reader" (15) "GraphNames$Reader" "fault" "I" : Cond) := by decide +kernel
theorem w_197 : lw_tbl[197]? = some (.fieldLink "GraphNames" (105) "GraphNames$Reader" "fault" "I" : Cond) := by decide +kernel
theorem w_198 : lw_tbl[198]? = some (.fieldLink "GraphNames$Reader" (18) "GraphNames$Reader" "place" "I" : Cond) := by decide +kernel
theorem w_199 : lw_tbl[199]? = some (.fieldLink "GraphNames" (125) "GraphNames$Reader" "place" "I" : Cond) := by decide +kernel
theorem w_200 : lw_tbl[200]? = some (.fieldLink "GraphNames$Reader" (24) "GraphNames$Reader" "graph" "LGraphNames$Graph;" : Cond) := by decide +kernel
theorem w_201 : lw_tbl[201]? = some (.fieldLink "GraphNames" (112) "GraphNames$Reader" "graph" "LGraphNames$Graph;" : Cond) := by decide +kernel
theorem w_202 : lw_tbl[202]? = some (.fieldLink "GraphNames$Reader" (28) "GraphNames$Reader" "tape" "[I" : Cond) := by decide +kernel
theorem w_203 : lw_tbl[203]? = some (.fieldLink "GraphNames$Reader" (32) "GraphNames$Reader" "end" "I" : Cond) := by decide +kernel
theorem w_204 : lw_tbl[204]? = some (.fieldLink "GraphNames$Reader" (35) "GraphNames$Reader" "token" "I" : Cond) := by decide +kernel
theorem w_205 : lw_tbl[205]? = some (.fieldLink "GraphNames$Reader" (38) "GraphNames$Reader" "at" "I" : Cond) := by decide +kernel
theorem w_206 : lw_tbl[206]? = some (.fieldLink "GraphNames$Reader" (41) "GraphNames$Reader" "next" "I" : Cond) := by decide +kernel
theorem w_207 : lw_tbl[207]? = some (.fieldLink "GraphNames$Reader" (44) "GraphNames$Reader" "painted" "I" : Cond) := by decide +kernel
theorem w_231 : lw_tbl[231]? = some (.methodLink "GraphNames" (36) (⟨"GraphNames$Past", "<init>", "()V"⟩ : MethodName) : Cond) := by decide +kernel
theorem w_232 : lw_tbl[232]? = some (.instanceMethod (⟨"GraphNames$Past", "<init>", "()V"⟩ : MethodName) : Cond) := by decide +kernel
theorem w_233 : lw_tbl[233]? = some (.code (⟨"GraphNames$Past", "<init>", "()V"⟩) prog_6_method_1_code 2 none : Cond) := by decide +kernel
theorem w_236 : lw_tbl[236]? = some (.methodLinkNest "GraphNames$Past" (28) (⟨"GraphNames$Graph", "<init>", "()V"⟩ : MethodName) "GraphNames" : Cond) := by decide +kernel
theorem w_237 : lw_tbl[237]? = some (.fieldLink "GraphNames$Past" (9) "GraphNames$Past" "count" "I" : Cond) := by decide +kernel
theorem w_238 : lw_tbl[238]? = some (.fieldLink "GraphNames" (312) "GraphNames$Past" "count" "I" : Cond) := by decide +kernel
theorem w_239 : lw_tbl[239]? = some (.fieldLink "GraphNames$Past" (15) "GraphNames$Past" "next" "I" : Cond) := by decide +kernel
theorem w_240 : lw_tbl[240]? = some (.fieldLink "GraphNames$Past" (18) "GraphNames$Past" "which" "[I" : Cond) := by decide +kernel
theorem w_241 : lw_tbl[241]? = some (.fieldLink "GraphNames$Past" (24) "GraphNames$Past" "were" "[LGraphNames$Graph;" : Cond) := by decide +kernel
theorem w_253 : lw_tbl[253]? = some (.methodLinkNest "GraphNames" (50) (⟨"GraphNames$Cells", "<init>", "()V"⟩ : MethodName) "GraphNames" : Cond) := by decide +kernel
theorem w_254 : lw_tbl[254]? = some (.instanceMethod (⟨"GraphNames$Cells", "<init>", "()V"⟩ : MethodName) : Cond) := by decide +kernel
theorem w_255 : lw_tbl[255]? = some (.code (⟨"GraphNames$Cells", "<init>", "()V"⟩) prog_2_method_1_code 1 none : Cond) := by decide +kernel
theorem w_257 : lw_tbl[257]? = some (.fieldLink "GraphNames$Cells" (9) "GraphNames$Cells" "count" "I" : Cond) := by decide +kernel
theorem w_258 : lw_tbl[258]? = some (.fieldLink "GraphNames" (135) "GraphNames$Cells" "count" "I" : Cond) := by decide +kernel
theorem w_259 : lw_tbl[259]? = some (.fieldLink "GraphNames$Cells" (15) "GraphNames$Cells" "rounds" "I" : Cond) := by decide +kernel
theorem w_260 : lw_tbl[260]? = some (.fieldLink "GraphNames" (162) "GraphNames$Cells" "rounds" "I" : Cond) := by decide +kernel
theorem w_261 : lw_tbl[261]? = some (.fieldLink "GraphNames$Cells" (18) "GraphNames$Cells" "sets" "[I" : Cond) := by decide +kernel
theorem w_262 : lw_tbl[262]? = some (.fieldLink "GraphNames$Leaf" (33) "GraphNames$Cells" "sets" "[I" : Cond) := by decide +kernel
theorem w_263 : lw_tbl[263]? = some (.fieldLink "GraphNames" (171) "GraphNames$Cells" "sets" "[I" : Cond) := by decide +kernel
theorem w_264 : lw_tbl[264]? = some (.fieldLink "GraphNames$Cells" (22) "GraphNames$Cells" "signs" "[J" : Cond) := by decide +kernel
theorem w_265 : lw_tbl[265]? = some (.fieldLink "GraphNames$Cells" (26) "GraphNames$Cells" "own" "[J" : Cond) := by decide +kernel
theorem w_266 : lw_tbl[266]? = some (.fieldLink "GraphNames$Cells" (29) "GraphNames$Cells" "parts" "[I" : Cond) := by decide +kernel
theorem w_267 : lw_tbl[267]? = some (.fieldLink "GraphNames$Cells" (32) "GraphNames$Cells" "partCount" "I" : Cond) := by decide +kernel
theorem w_287 : lw_tbl[287]? = some (.methodLinkNest "GraphNames" (60) (⟨"GraphNames$Pairing", "<init>", "()V"⟩ : MethodName) "GraphNames" : Cond) := by decide +kernel
theorem w_288 : lw_tbl[288]? = some (.instanceMethod (⟨"GraphNames$Pairing", "<init>", "()V"⟩ : MethodName) : Cond) := by decide +kernel
theorem w_289 : lw_tbl[289]? = some (.code (⟨"GraphNames$Pairing", "<init>", "()V"⟩) prog_5_method_1_code 1 none : Cond) := by decide +kernel
theorem w_292 : lw_tbl[292]? = some (.methodLinkNest "GraphNames$Pairing" (24) (⟨"GraphNames$Graph", "<init>", "()V"⟩ : MethodName) "GraphNames" : Cond) := by decide +kernel
theorem w_293 : lw_tbl[293]? = some (.fieldLink "GraphNames$Pairing" (9) "GraphNames$Pairing" "ways" "I" : Cond) := by decide +kernel
theorem w_294 : lw_tbl[294]? = some (.fieldLink "GraphNames" (249) "GraphNames$Pairing" "ways" "I" : Cond) := by decide +kernel
theorem w_295 : lw_tbl[295]? = some (.fieldLink "GraphNames$Pairing" (15) "GraphNames$Pairing" "least" "[I" : Cond) := by decide +kernel
theorem w_296 : lw_tbl[296]? = some (.fieldLink "GraphNames" (264) "GraphNames$Pairing" "least" "[I" : Cond) := by decide +kernel
theorem w_297 : lw_tbl[297]? = some (.fieldLink "GraphNames$Pairing" (19) "GraphNames$Pairing" "reached" "[I" : Cond) := by decide +kernel
theorem w_298 : lw_tbl[298]? = some (.fieldLink "GraphNames" (258) "GraphNames$Pairing" "reached" "[I" : Cond) := by decide +kernel
theorem w_299 : lw_tbl[299]? = some (.fieldLink "GraphNames$Pairing" (25) "GraphNames$Pairing" "from" "LGraphNames$Graph;" : Cond) := by decide +kernel
theorem w_300 : lw_tbl[300]? = some (.fieldLink "GraphNames$Pairing" (29) "GraphNames$Pairing" "to" "LGraphNames$Graph;" : Cond) := by decide +kernel
theorem w_301 : lw_tbl[301]? = some (.fieldLink "GraphNames$Pairing" (32) "GraphNames$Pairing" "goes" "[I" : Cond) := by decide +kernel
theorem w_302 : lw_tbl[302]? = some (.fieldLink "GraphNames$Pairing" (35) "GraphNames$Pairing" "stay" "I" : Cond) := by decide +kernel
theorem w_303 : lw_tbl[303]? = some (.fieldLink "GraphNames$Pairing" (38) "GraphNames$Pairing" "fewest" "I" : Cond) := by decide +kernel
theorem w_321 : lw_tbl[321]? = some (.methodLinkNest "GraphNames" (65) (⟨"GraphNames$Graph", "<init>", "()V"⟩ : MethodName) "GraphNames" : Cond) := by decide +kernel
theorem w_323 : lw_tbl[323]? = some (.methodLinkNest "GraphNames" (70) (⟨"GraphNames$Search", "<init>", "()V"⟩ : MethodName) "GraphNames" : Cond) := by decide +kernel
theorem w_324 : lw_tbl[324]? = some (.instanceMethod (⟨"GraphNames$Search", "<init>", "()V"⟩ : MethodName) : Cond) := by decide +kernel
theorem w_325 : lw_tbl[325]? = some (.code (⟨"GraphNames$Search", "<init>", "()V"⟩) prog_8_method_1_code 1 none : Cond) := by decide +kernel
theorem w_326 : lw_tbl[326]? = some (.methodLink "GraphNames$Search" (3) (⟨"GraphNames$Walk", "<init>", "()V"⟩ : MethodName) : Cond) := by decide +kernel
theorem w_327 : lw_tbl[327]? = some (.instanceMethod (⟨"GraphNames$Walk", "<init>", "()V"⟩ : MethodName) : Cond) := by decide +kernel
theorem w_328 : lw_tbl[328]? = some (.code (⟨"GraphNames$Walk", "<init>", "()V"⟩) prog_10_method_1_code 2 none : Cond) := by decide +kernel
theorem w_331 : lw_tbl[331]? = some (.methodLinkNest "GraphNames$Walk" (11) (⟨"GraphNames$Graph", "<init>", "()V"⟩ : MethodName) "GraphNames" : Cond) := by decide +kernel
theorem w_336 : lw_tbl[336]? = some (.methodLinkNest "GraphNames$Walk" (26) (⟨"GraphNames$Leaf", "<init>", "()V"⟩ : MethodName) "GraphNames" : Cond) := by decide +kernel
theorem w_337 : lw_tbl[337]? = some (.instanceMethod (⟨"GraphNames$Leaf", "<init>", "()V"⟩ : MethodName) : Cond) := by decide +kernel
theorem w_338 : lw_tbl[338]? = some (.code (⟨"GraphNames$Leaf", "<init>", "()V"⟩) prog_4_method_1_code 1 none : Cond) := by decide +kernel
theorem w_340 : lw_tbl[340]? = some (.fieldLink "GraphNames$Leaf" (9) "GraphNames$Leaf" "depth" "I" : Cond) := by decide +kernel
theorem w_341 : lw_tbl[341]? = some (.fieldLink "GraphNames$Tree" (20) "GraphNames$Leaf" "depth" "I" : Cond) := by decide +kernel
theorem w_342 : lw_tbl[342]? = some (.fieldLink "GraphNames$Leaf" (15) "GraphNames$Leaf" "length" "I" : Cond) := by decide +kernel
theorem w_343 : lw_tbl[343]? = some (.fieldLink "GraphNames" (225) "GraphNames$Leaf" "length" "I" : Cond) := by decide +kernel
theorem w_344 : lw_tbl[344]? = some (.fieldLink "GraphNames$Leaf" (18) "GraphNames$Leaf" "marks" "[I" : Cond) := by decide +kernel
theorem w_345 : lw_tbl[345]? = some (.fieldLink "GraphNames$Walk" (66) "GraphNames$Leaf" "marks" "[I" : Cond) := by decide +kernel
theorem w_346 : lw_tbl[346]? = some (.fieldLink "GraphNames$Search" (61) "GraphNames$Leaf" "marks" "[I" : Cond) := by decide +kernel
theorem w_347 : lw_tbl[347]? = some (.fieldLink "GraphNames" (200) "GraphNames$Leaf" "marks" "[I" : Cond) := by decide +kernel
theorem w_348 : lw_tbl[348]? = some (.fieldLink "GraphNames$Leaf" (22) "GraphNames$Leaf" "code" "[I" : Cond) := by decide +kernel
theorem w_349 : lw_tbl[349]? = some (.fieldLink "GraphNames" (228) "GraphNames$Leaf" "code" "[I" : Cond) := by decide +kernel
theorem w_350 : lw_tbl[350]? = some (.fieldLink "GraphNames$Leaf" (25) "GraphNames$Leaf" "order" "[I" : Cond) := by decide +kernel
theorem w_351 : lw_tbl[351]? = some (.fieldLink "GraphNames$Search" (78) "GraphNames$Leaf" "order" "[I" : Cond) := by decide +kernel
theorem w_352 : lw_tbl[352]? = some (.fieldLink "GraphNames" (231) "GraphNames$Leaf" "order" "[I" : Cond) := by decide +kernel
theorem w_364 : lw_tbl[364]? = some (.methodLinkNest "GraphNames$Walk" (51) (⟨"GraphNames$Cells", "<init>", "()V"⟩ : MethodName) "GraphNames" : Cond) := by decide +kernel
theorem w_366 : lw_tbl[366]? = some (.methodLinkNest "GraphNames$Search" (24) (⟨"GraphNames$Leaf", "<init>", "()V"⟩ : MethodName) "GraphNames" : Cond) := by decide +kernel
theorem w_367 : lw_tbl[367]? = some (.fieldLink "GraphNames$Search" (9) "GraphNames$Search" "found" "I" : Cond) := by decide +kernel
theorem w_368 : lw_tbl[368]? = some (.fieldLink "GraphNames" (218) "GraphNames$Search" "found" "I" : Cond) := by decide +kernel
theorem w_369 : lw_tbl[369]? = some (.fieldLink "GraphNames$Search" (15) "GraphNames$Search" "bests" "I" : Cond) := by decide +kernel
theorem w_370 : lw_tbl[370]? = some (.fieldLink "GraphNames" (221) "GraphNames$Search" "bests" "I" : Cond) := by decide +kernel
theorem w_371 : lw_tbl[371]? = some (.fieldLink "GraphNames$Search" (18) "GraphNames$Search" "generators" "[I" : Cond) := by decide +kernel
theorem w_372 : lw_tbl[372]? = some (.fieldLink "GraphNames" (238) "GraphNames$Search" "generators" "[I" : Cond) := by decide +kernel
theorem w_373 : lw_tbl[373]? = some (.fieldLink "GraphNames$Search" (25) "GraphNames$Search" "first" "LGraphNames$Leaf;" : Cond) := by decide +kernel
theorem w_374 : lw_tbl[374]? = some (.fieldLink "GraphNames$Walk" (12) "GraphNames$Walk" "of" "LGraphNames$Graph;" : Cond) := by decide +kernel
theorem w_375 : lw_tbl[375]? = some (.fieldLink "GraphNames$Search" (43) "GraphNames$Search" "of" "LGraphNames$Graph;" : Cond) := by decide +kernel
theorem w_376 : lw_tbl[376]? = some (.sameField "GraphNames$Search" "GraphNames$Walk" "of" "LGraphNames$Graph;" : Cond) := by decide +kernel
theorem w_377 : lw_tbl[377]? = some (.fieldLink "GraphNames$Walk" (20) "GraphNames$Walk" "way" "[LGraphNames$Cells;" : Cond) := by decide +kernel
theorem w_378 : lw_tbl[378]? = some (.fieldLink "GraphNames$Walk" (27) "GraphNames$Walk" "here" "LGraphNames$Leaf;" : Cond) := by decide +kernel
theorem w_379 : lw_tbl[379]? = some (.fieldLink "GraphNames$Tree" (16) "GraphNames$Tree" "here" "LGraphNames$Leaf;" : Cond) := by decide +kernel
theorem w_380 : lw_tbl[380]? = some (.sameField "GraphNames$Tree" "GraphNames$Walk" "here" "LGraphNames$Leaf;" : Cond) := by decide +kernel
theorem w_381 : lw_tbl[381]? = some (.fieldLink "GraphNames$Search" (58) "GraphNames$Search" "here" "LGraphNames$Leaf;" : Cond) := by decide +kernel
theorem w_382 : lw_tbl[382]? = some (.sameField "GraphNames$Search" "GraphNames$Walk" "here" "LGraphNames$Leaf;" : Cond) := by decide +kernel
theorem w_383 : lw_tbl[383]? = some (.fieldLink "GraphNames$Walk" (31) "GraphNames$Walk" "best" "LGraphNames$Leaf;" : Cond) := by decide +kernel
theorem w_384 : lw_tbl[384]? = some (.fieldLink "GraphNames$Tree" (34) "GraphNames$Tree" "best" "LGraphNames$Leaf;" : Cond) := by decide +kernel
theorem w_385 : lw_tbl[385]? = some (.sameField "GraphNames$Tree" "GraphNames$Walk" "best" "LGraphNames$Leaf;" : Cond) := by decide +kernel
theorem w_386 : lw_tbl[386]? = some (.fieldLink "GraphNames$Search" (64) "GraphNames$Search" "best" "LGraphNames$Leaf;" : Cond) := by decide +kernel
theorem w_387 : lw_tbl[387]? = some (.sameField "GraphNames$Search" "GraphNames$Walk" "best" "LGraphNames$Leaf;" : Cond) := by decide +kernel
theorem w_388 : lw_tbl[388]? = some (.fieldLink "GraphNames" (196) "GraphNames$Tree" "best" "LGraphNames$Leaf;" : Cond) := by decide +kernel
theorem w_389 : lw_tbl[389]? = some (.fieldLink "GraphNames" (224) "GraphNames$Search" "best" "LGraphNames$Leaf;" : Cond) := by decide +kernel
theorem w_390 : lw_tbl[390]? = some (.fieldLink "GraphNames$Walk" (34) "GraphNames$Walk" "nodes" "I" : Cond) := by decide +kernel
theorem w_391 : lw_tbl[391]? = some (.fieldLink "GraphNames" (187) "GraphNames$Tree" "nodes" "I" : Cond) := by decide +kernel
theorem w_392 : lw_tbl[392]? = some (.sameField "GraphNames$Tree" "GraphNames$Walk" "nodes" "I" : Cond) := by decide +kernel
theorem w_393 : lw_tbl[393]? = some (.fieldLink "GraphNames" (210) "GraphNames$Search" "nodes" "I" : Cond) := by decide +kernel
theorem w_394 : lw_tbl[394]? = some (.sameField "GraphNames$Search" "GraphNames$Walk" "nodes" "I" : Cond) := by decide +kernel
theorem w_395 : lw_tbl[395]? = some (.fieldLink "GraphNames$Walk" (38) "GraphNames$Walk" "leafs" "I" : Cond) := by decide +kernel
theorem w_396 : lw_tbl[396]? = some (.fieldLink "GraphNames$Tree" (31) "GraphNames$Tree" "leafs" "I" : Cond) := by decide +kernel
theorem w_397 : lw_tbl[397]? = some (.sameField "GraphNames$Tree" "GraphNames$Walk" "leafs" "I" : Cond) := by decide +kernel
theorem w_398 : lw_tbl[398]? = some (.fieldLink "GraphNames$Search" (55) "GraphNames$Search" "leafs" "I" : Cond) := by decide +kernel
theorem w_399 : lw_tbl[399]? = some (.sameField "GraphNames$Search" "GraphNames$Walk" "leafs" "I" : Cond) := by decide +kernel
theorem w_400 : lw_tbl[400]? = some (.fieldLink "GraphNames" (190) "GraphNames$Tree" "leafs" "I" : Cond) := by decide +kernel
theorem w_401 : lw_tbl[401]? = some (.fieldLink "GraphNames" (211) "GraphNames$Search" "leafs" "I" : Cond) := by decide +kernel
theorem w_402 : lw_tbl[402]? = some (.fieldLink "GraphNames$Walk" (41) "GraphNames$Walk" "cut" "I" : Cond) := by decide +kernel
theorem w_403 : lw_tbl[403]? = some (.fieldLink "GraphNames" (212) "GraphNames$Search" "cut" "I" : Cond) := by decide +kernel
theorem w_404 : lw_tbl[404]? = some (.sameField "GraphNames$Search" "GraphNames$Walk" "cut" "I" : Cond) := by decide +kernel
theorem w_405 : lw_tbl[405]? = some (.fieldLink "GraphNames$Walk" (44) "GraphNames$Walk" "skipped" "I" : Cond) := by decide +kernel
theorem w_406 : lw_tbl[406]? = some (.fieldLink "GraphNames" (215) "GraphNames$Search" "skipped" "I" : Cond) := by decide +kernel
theorem w_407 : lw_tbl[407]? = some (.sameField "GraphNames$Search" "GraphNames$Walk" "skipped" "I" : Cond) := by decide +kernel
theorem w_408 : lw_tbl[408]? = some (.fieldLink "GraphNames$Walk" (47) "GraphNames$Walk" "seen" "Z" : Cond) := by decide +kernel
theorem w_439 : lw_tbl[439]? = some (.methodLinkNest "GraphNames" (85) (⟨"GraphNames$Tree", "<init>", "()V"⟩ : MethodName) "GraphNames" : Cond) := by decide +kernel
theorem w_440 : lw_tbl[440]? = some (.instanceMethod (⟨"GraphNames$Tree", "<init>", "()V"⟩ : MethodName) : Cond) := by decide +kernel
theorem w_441 : lw_tbl[441]? = some (.code (⟨"GraphNames$Tree", "<init>", "()V"⟩) prog_9_method_1_code 1 none : Cond) := by decide +kernel
theorem w_442 : lw_tbl[442]? = some (.methodLink "GraphNames$Tree" (1) (⟨"GraphNames$Walk", "<init>", "()V"⟩ : MethodName) : Cond) := by decide +kernel
theorem w_443 : lw_tbl[443]? = some (.fieldLink "GraphNames$Tree" (7) "GraphNames$Tree" "deepest" "I" : Cond) := by decide +kernel
theorem w_444 : lw_tbl[444]? = some (.fieldLink "GraphNames" (193) "GraphNames$Tree" "deepest" "I" : Cond) := by decide +kernel
theorem w_445 : lw_tbl[445]? = some (.fieldLink "GraphNames$Tree" (13) "GraphNames$Tree" "like" "I" : Cond) := by decide +kernel
theorem w_446 : lw_tbl[446]? = some (.fieldLink "GraphNames" (203) "GraphNames$Tree" "like" "I" : Cond) := by decide +kernel
theorem w_461 : lw_tbl[461]? = some (.methodLinkNest "GraphNames" (86) (⟨"GraphNames$Leaf", "<init>", "()V"⟩ : MethodName) "GraphNames" : Cond) := by decide +kernel
theorem w_462 : lw_tbl[462]? = some (.fieldLink "GraphNames" (11) "GraphNames" "graphs" "[LGraphNames$Graph;" : Cond) := by decide +kernel
theorem w_463 : lw_tbl[463]? = some (.fieldLink "GraphNames" (17) "GraphNames" "trees" "[LGraphNames$Tree;" : Cond) := by decide +kernel
theorem w_464 : lw_tbl[464]? = some (.fieldLink "GraphNames" (23) "GraphNames" "searches" "[LGraphNames$Search;" : Cond) := by decide +kernel
theorem w_465 : lw_tbl[465]? = some (.fieldLink "GraphNames" (30) "GraphNames" "reader" "LGraphNames$Reader;" : Cond) := by decide +kernel
theorem w_466 : lw_tbl[466]? = some (.fieldLink "GraphNames" (37) "GraphNames" "past" "LGraphNames$Past;" : Cond) := by decide +kernel
theorem w_467 : lw_tbl[467]? = some (.fieldLink "GraphNames" (41) "GraphNames" "images" "[LGraphNames$Graph;" : Cond) := by decide +kernel
theorem w_468 : lw_tbl[468]? = some (.fieldLink "GraphNames" (44) "GraphNames" "kept" "[Z" : Cond) := by decide +kernel
theorem w_469 : lw_tbl[469]? = some (.fieldLink "GraphNames" (51) "GraphNames" "cells" "LGraphNames$Cells;" : Cond) := by decide +kernel
theorem w_470 : lw_tbl[470]? = some (.fieldLink "GraphNames" (55) "GraphNames" "others" "LGraphNames$Cells;" : Cond) := by decide +kernel
theorem w_471 : lw_tbl[471]? = some (.fieldLink "GraphNames" (61) "GraphNames" "pairing" "LGraphNames$Pairing;" : Cond) := by decide +kernel
theorem w_472 : lw_tbl[472]? = some (.fieldLink "GraphNames" (66) "GraphNames" "made" "LGraphNames$Graph;" : Cond) := by decide +kernel
theorem w_473 : lw_tbl[473]? = some (.fieldLink "GraphNames" (71) "GraphNames" "cardSearch" "LGraphNames$Search;" : Cond) := by decide +kernel
theorem w_474 : lw_tbl[474]? = some (.fieldLink "GraphNames" (77) "GraphNames" "cardNames" "[LGraphNames$Leaf;" : Cond) := by decide +kernel
theorem w_475 : lw_tbl[475]? = some (.fieldLink "GraphNames" (81) "GraphNames" "trouble" "I" : Cond) := by decide +kernel
theorem w_505 : lw_tbl[505]? = some (.methodLink "GraphNamesLaw" (19) (⟨"GraphNames", "feed", "(IIIII)I"⟩ : MethodName) : Cond) := by decide +kernel
theorem w_506 : lw_tbl[506]? = some (.instanceMethod (⟨"GraphNames", "feed", "(IIIII)I"⟩ : MethodName) : Cond) := by decide +kernel
theorem w_507 : lw_tbl[507]? = some (.selects "GraphNames" (⟨"GraphNames", "feed", "(IIIII)I"⟩ : MethodName) (⟨"GraphNames", "feed", "(IIIII)I"⟩ : MethodName) : Cond) := by decide +kernel
theorem w_508 : lw_tbl[508]? = some (.code (⟨"GraphNames", "feed", "(IIIII)I"⟩) prog_1_method_2_code 6 (some .int) : Cond) := by decide +kernel
theorem w_509 : lw_tbl[509]? = some (.methodLink "GraphNames" (90) (⟨"GraphNames$Reader", "put", "(I)V"⟩ : MethodName) : Cond) := by decide +kernel
theorem w_510 : lw_tbl[510]? = some (.instanceMethod (⟨"GraphNames$Reader", "put", "(I)V"⟩ : MethodName) : Cond) := by decide +kernel
theorem w_511 : lw_tbl[511]? = some (.selects "GraphNames$Reader" (⟨"GraphNames$Reader", "put", "(I)V"⟩ : MethodName) (⟨"GraphNames$Reader", "put", "(I)V"⟩ : MethodName) : Cond) := by decide +kernel
theorem w_512 : lw_tbl[512]? = some (.code (⟨"GraphNames$Reader", "put", "(I)V"⟩) prog_7_method_2_code 3 none : Cond) := by decide +kernel
theorem w_513 : lw_tbl[513]? = some (.methodLink "GraphNamesLaw" (24) (⟨"GraphNames", "text", "(II)I"⟩ : MethodName) : Cond) := by decide +kernel
theorem w_514 : lw_tbl[514]? = some (.instanceMethod (⟨"GraphNames", "text", "(II)I"⟩ : MethodName) : Cond) := by decide +kernel
theorem w_515 : lw_tbl[515]? = some (.selects "GraphNames" (⟨"GraphNames", "text", "(II)I"⟩ : MethodName) (⟨"GraphNames", "text", "(II)I"⟩ : MethodName) : Cond) := by decide +kernel
theorem w_516 : lw_tbl[516]? = some (.code (⟨"GraphNames", "text", "(II)I"⟩) prog_1_method_3_code 4 (some .int) : Cond) := by decide +kernel
theorem w_517 : lw_tbl[517]? = some (.methodLink "GraphNames" (94) (⟨"GraphNames", "at", "(I)LGraphNames$Graph;"⟩ : MethodName) : Cond) := by decide +kernel
theorem w_519 : lw_tbl[519]? = some (.instanceMethod (⟨"GraphNames", "at", "(I)LGraphNames$Graph;"⟩ : MethodName) : Cond) := by decide +kernel
theorem w_520 : lw_tbl[520]? = some (.code (⟨"GraphNames", "at", "(I)LGraphNames$Graph;"⟩) prog_1_method_46_code 2 (some (.object "GraphNames$Graph")) : Cond) := by decide +kernel
theorem w_521 : lw_tbl[521]? = some (.methodLink "GraphNames" (98) (⟨"GraphNames", "refused", "(I)I"⟩ : MethodName) : Cond) := by decide +kernel
theorem w_523 : lw_tbl[523]? = some (.instanceMethod (⟨"GraphNames", "refused", "(I)I"⟩ : MethodName) : Cond) := by decide +kernel
theorem w_524 : lw_tbl[524]? = some (.code (⟨"GraphNames", "refused", "(I)I"⟩) prog_1_method_44_code 2 (some .int) : Cond) := by decide +kernel
theorem w_525 : lw_tbl[525]? = some (.methodLink "GraphNames" (102) (⟨"GraphNames$Reader", "read", "(I)V"⟩ : MethodName) : Cond) := by decide +kernel
theorem w_526 : lw_tbl[526]? = some (.instanceMethod (⟨"GraphNames$Reader", "read", "(I)V"⟩ : MethodName) : Cond) := by decide +kernel
theorem w_527 : lw_tbl[527]? = some (.selects "GraphNames$Reader" (⟨"GraphNames$Reader", "read", "(I)V"⟩ : MethodName) (⟨"GraphNames$Reader", "read", "(I)V"⟩ : MethodName) : Cond) := by decide +kernel
theorem w_528 : lw_tbl[528]? = some (.code (⟨"GraphNames$Reader", "read", "(I)V"⟩) prog_7_method_3_code 2 none : Cond) := by decide +kernel
theorem w_529 : lw_tbl[529]? = some (.methodLink "GraphNames$Reader" (47) (⟨"GraphNames$Reader", "step", "()V"⟩ : MethodName) : Cond) := by decide +kernel
theorem w_531 : lw_tbl[531]? = some (.instanceMethod (⟨"GraphNames$Reader", "step", "()V"⟩ : MethodName) : Cond) := by decide +kernel
theorem w_532 : lw_tbl[532]? = some (.code (⟨"GraphNames$Reader", "step", "()V"⟩) prog_7_method_15_code 2 none : Cond) := by decide +kernel
theorem w_533 : lw_tbl[533]? = some (.methodLink "GraphNames$Reader" (129) (⟨"GraphNames$Reader", "isLetter", "(I)Z"⟩ : MethodName) : Cond) := by decide +kernel
theorem w_534 : lw_tbl[534]? = some (.static (⟨"GraphNames$Reader", "isLetter", "(I)Z"⟩ : MethodName) : Cond) := by decide +kernel
theorem w_535 : lw_tbl[535]? = some (.code (⟨"GraphNames$Reader", "isLetter", "(I)Z"⟩) prog_7_method_16_code 1 (some .boolean) : Cond) := by decide +kernel
theorem w_536 : lw_tbl[536]? = some (.methodLink "GraphNames$Reader" (50) (⟨"GraphNames$Reader", "readSize", "()Z"⟩ : MethodName) : Cond) := by decide +kernel
theorem w_538 : lw_tbl[538]? = some (.instanceMethod (⟨"GraphNames$Reader", "readSize", "()Z"⟩ : MethodName) : Cond) := by decide +kernel
theorem w_539 : lw_tbl[539]? = some (.code (⟨"GraphNames$Reader", "readSize", "()Z"⟩) prog_7_method_4_code 1 (some .boolean) : Cond) := by decide +kernel
theorem w_541 : lw_tbl[541]? = some (.methodLink "GraphNames$Reader" (59) (⟨"GraphNames$Reader", "isWord", "(Ljava/lang/String;)Z"⟩ : MethodName) : Cond) := by decide +kernel
theorem w_543 : lw_tbl[543]? = some (.instanceMethod (⟨"GraphNames$Reader", "isWord", "(Ljava/lang/String;)Z"⟩ : MethodName) : Cond) := by decide +kernel
theorem w_544 : lw_tbl[544]? = some (.code (⟨"GraphNames$Reader", "isWord", "(Ljava/lang/String;)Z"⟩) prog_7_method_14_code 3 (some .boolean) : Cond) := by decide +kernel
theorem w_545 : lw_tbl[545]? = some (.methodLink "GraphNames$Reader" (120) (⟨"java/lang/String", "length", "()I"⟩ : MethodName) : Cond) := by decide +kernel
theorem w_546 : lw_tbl[546]? = some (.instanceMethod (⟨"java/lang/String", "length", "()I"⟩ : MethodName) : Cond) := by decide +kernel
theorem w_547 : lw_tbl[547]? = some (.selects "java/lang/String" (⟨"java/lang/String", "length", "()I"⟩ : MethodName) (⟨"java/lang/String", "length", "()I"⟩ : MethodName) : Cond) := by decide +kernel
theorem w_548 : lw_tbl[548]? = some (.code (⟨"java/lang/String", "length", "()I"⟩) prog_20_method_54_code 1 (some .int) : Cond) := by decide +kernel
theorem w_549 : lw_tbl[549]? = some (.methodLink "java/lang/String" (335) (⟨"java/lang/String", "coder", "()B"⟩ : MethodName) : Cond) := by decide +kernel
theorem w_550 : lw_tbl[550]? = some (.instanceMethod (⟨"java/lang/String", "coder", "()B"⟩ : MethodName) : Cond) := by decide +kernel
theorem w_551 : lw_tbl[551]? = some (.selects "java/lang/String" (⟨"java/lang/String", "coder", "()B"⟩ : MethodName) (⟨"java/lang/String", "coder", "()B"⟩ : MethodName) : Cond) := by decide +kernel
theorem w_552 : lw_tbl[552]? = some (.code (⟨"java/lang/String", "coder", "()B"⟩) prog_20_method_152_code 1 (some .byte) : Cond) := by decide +kernel
theorem w_555 : lw_tbl[555]? = some (.methodLink "GraphNames$Reader" (125) (⟨"java/lang/String", "charAt", "(I)C"⟩ : MethodName) : Cond) := by decide +kernel
theorem w_556 : lw_tbl[556]? = some (.instanceMethod (⟨"java/lang/String", "charAt", "(I)C"⟩ : MethodName) : Cond) := by decide +kernel
theorem w_557 : lw_tbl[557]? = some (.selects "java/lang/String" (⟨"java/lang/String", "charAt", "(I)C"⟩ : MethodName) (⟨"java/lang/String", "charAt", "(I)C"⟩ : MethodName) : Cond) := by decide +kernel
theorem w_558 : lw_tbl[558]? = some (.code (⟨"java/lang/String", "charAt", "(I)C"⟩) prog_20_method_56_code 2 (some .char) : Cond) := by decide +kernel
theorem w_559 : lw_tbl[559]? = some (.methodLink "java/lang/String" (492) (⟨"java/lang/String", "isLatin1", "()Z"⟩ : MethodName) : Cond) := by decide +kernel
theorem w_560 : lw_tbl[560]? = some (.instanceMethod (⟨"java/lang/String", "isLatin1", "()Z"⟩ : MethodName) : Cond) := by decide +kernel
theorem w_561 : lw_tbl[561]? = some (.selects "java/lang/String" (⟨"java/lang/String", "isLatin1", "()Z"⟩ : MethodName) (⟨"java/lang/String", "isLatin1", "()Z"⟩ : MethodName) : Cond) := by decide +kernel
theorem w_562 : lw_tbl[562]? = some (.code (⟨"java/lang/String", "isLatin1", "()Z"⟩) prog_20_method_154_code 1 (some .boolean) : Cond) := by decide +kernel
theorem w_563 : lw_tbl[563]? = some (.methodLink "java/lang/String" (495) (⟨"java/lang/StringLatin1", "charAt", "([BI)C"⟩ : MethodName) : Cond) := by decide +kernel
theorem w_564 : lw_tbl[564]? = some (.static (⟨"java/lang/StringLatin1", "charAt", "([BI)C"⟩ : MethodName) : Cond) := by decide +kernel
theorem w_565 : lw_tbl[565]? = some (.code (⟨"java/lang/StringLatin1", "charAt", "([BI)C"⟩) prog_21_method_2_code 2 (some .char) : Cond) := by decide +kernel
theorem w_566 : lw_tbl[566]? = some (.methodLink "java/lang/StringLatin1" (9) (⟨"java/lang/String", "checkIndex", "(II)V"⟩ : MethodName) : Cond) := by decide +kernel
theorem w_567 : lw_tbl[567]? = some (.static (⟨"java/lang/String", "checkIndex", "(II)V"⟩ : MethodName) : Cond) := by decide +kernel
theorem w_568 : lw_tbl[568]? = some (.code (⟨"java/lang/String", "checkIndex", "(II)V"⟩) prog_20_method_155_code 2 none : Cond) := by decide +kernel
theorem w_571 : lw_tbl[571]? = some (.methodLink "java/lang/String" (1059) (⟨"jdk/internal/util/Preconditions", "checkIndex", "(IILjava/util/function/BiFunction;)I"⟩ : MethodName) : Cond) := by decide +kernel
theorem w_572 : lw_tbl[572]? = some (.static (⟨"jdk/internal/util/Preconditions", "checkIndex", "(IILjava/util/function/BiFunction;)I"⟩ : MethodName) : Cond) := by decide +kernel
theorem w_573 : lw_tbl[573]? = some (.code (⟨"jdk/internal/util/Preconditions", "checkIndex", "(IILjava/util/function/BiFunction;)I"⟩) prog_28_method_11_code 3 (some .int) : Cond) := by decide +kernel
theorem w_574 : lw_tbl[574]? = some (.methodLink "java/lang/String" (498) (⟨"java/lang/StringUTF16", "charAt", "([BI)C"⟩ : MethodName) : Cond) := by decide +kernel
theorem w_575 : lw_tbl[575]? = some (.static (⟨"java/lang/StringUTF16", "charAt", "([BI)C"⟩ : MethodName) : Cond) := by decide +kernel
theorem w_576 : lw_tbl[576]? = some (.code (⟨"java/lang/StringUTF16", "charAt", "([BI)C"⟩) prog_22_method_83_code 2 (some .char) : Cond) := by decide +kernel
theorem w_577 : lw_tbl[577]? = some (.methodLink "java/lang/StringUTF16" (67) (⟨"java/lang/StringUTF16", "checkIndex", "(I[B)V"⟩ : MethodName) : Cond) := by decide +kernel
theorem w_578 : lw_tbl[578]? = some (.static (⟨"java/lang/StringUTF16", "checkIndex", "(I[B)V"⟩ : MethodName) : Cond) := by decide +kernel
theorem w_579 : lw_tbl[579]? = some (.code (⟨"java/lang/StringUTF16", "checkIndex", "(I[B)V"⟩) prog_22_method_91_code 2 none : Cond) := by decide +kernel
theorem w_580 : lw_tbl[580]? = some (.methodLink "java/lang/StringUTF16" (48) (⟨"java/lang/StringUTF16", "length", "([B)I"⟩ : MethodName) : Cond) := by decide +kernel
theorem w_581 : lw_tbl[581]? = some (.static (⟨"java/lang/StringUTF16", "length", "([B)I"⟩ : MethodName) : Cond) := by decide +kernel
theorem w_582 : lw_tbl[582]? = some (.code (⟨"java/lang/StringUTF16", "length", "([B)I"⟩) prog_22_method_6_code 1 (some .int) : Cond) := by decide +kernel
theorem w_583 : lw_tbl[583]? = some (.methodLink "java/lang/StringUTF16" (414) (⟨"java/lang/String", "checkIndex", "(II)V"⟩ : MethodName) : Cond) := by decide +kernel
theorem w_584 : lw_tbl[584]? = some (.methodLink "java/lang/StringUTF16" (71) (⟨"java/lang/StringUTF16", "getChar", "([BI)C"⟩ : MethodName) : Cond) := by decide +kernel
theorem w_585 : lw_tbl[585]? = some (.static (⟨"java/lang/StringUTF16", "getChar", "([BI)C"⟩ : MethodName) : Cond) := by decide +kernel
theorem w_586 : lw_tbl[586]? = some (.code (⟨"java/lang/StringUTF16", "getChar", "([BI)C"⟩) prog_22_method_5_code 2 (some .char) : Cond) := by decide +kernel
theorem w_593 : lw_tbl[593]? = some (.methodLink "GraphNames$Reader" (63) (⟨"GraphNames$Reader", "fails", "(I)Z"⟩ : MethodName) : Cond) := by decide +kernel
theorem w_595 : lw_tbl[595]? = some (.instanceMethod (⟨"GraphNames$Reader", "fails", "(I)Z"⟩ : MethodName) : Cond) := by decide +kernel
theorem w_596 : lw_tbl[596]? = some (.code (⟨"GraphNames$Reader", "fails", "(I)Z"⟩) prog_7_method_11_code 2 (some .boolean) : Cond) := by decide +kernel
theorem w_597 : lw_tbl[597]? = some (.methodLink "GraphNames$Reader" (67) (⟨"GraphNames$Reader", "digit", "()I"⟩ : MethodName) : Cond) := by decide +kernel
theorem w_599 : lw_tbl[599]? = some (.instanceMethod (⟨"GraphNames$Reader", "digit", "()I"⟩ : MethodName) : Cond) := by decide +kernel
theorem w_600 : lw_tbl[600]? = some (.code (⟨"GraphNames$Reader", "digit", "()I"⟩) prog_7_method_13_code 1 (some .int) : Cond) := by decide +kernel
theorem w_601 : lw_tbl[601]? = some (.methodLink "GraphNames$Reader" (71) (⟨"GraphNames$Graph", "empty", "(I)V"⟩ : MethodName) : Cond) := by decide +kernel
theorem w_602 : lw_tbl[602]? = some (.instanceMethod (⟨"GraphNames$Graph", "empty", "(I)V"⟩ : MethodName) : Cond) := by decide +kernel
theorem w_603 : lw_tbl[603]? = some (.selects "GraphNames$Graph" (⟨"GraphNames$Graph", "empty", "(I)V"⟩ : MethodName) (⟨"GraphNames$Graph", "empty", "(I)V"⟩ : MethodName) : Cond) := by decide +kernel
theorem w_604 : lw_tbl[604]? = some (.code (⟨"GraphNames$Graph", "empty", "(I)V"⟩) prog_3_method_12_code 4 none : Cond) := by decide +kernel
theorem w_605 : lw_tbl[605]? = some (.methodLink "GraphNames$Graph" (39) (⟨"GraphNames$Graph", "join", "(III)V"⟩ : MethodName) : Cond) := by decide +kernel
theorem w_606 : lw_tbl[606]? = some (.instanceMethod (⟨"GraphNames$Graph", "join", "(III)V"⟩ : MethodName) : Cond) := by decide +kernel
theorem w_607 : lw_tbl[607]? = some (.selects "GraphNames$Graph" (⟨"GraphNames$Graph", "join", "(III)V"⟩ : MethodName) (⟨"GraphNames$Graph", "join", "(III)V"⟩ : MethodName) : Cond) := by decide +kernel
theorem w_608 : lw_tbl[608]? = some (.code (⟨"GraphNames$Graph", "join", "(III)V"⟩) prog_3_method_6_code 5 none : Cond) := by decide +kernel
theorem w_609 : lw_tbl[609]? = some (.methodLink "GraphNames$Reader" (54) (⟨"GraphNames$Reader", "readLines", "()V"⟩ : MethodName) : Cond) := by decide +kernel
theorem w_611 : lw_tbl[611]? = some (.instanceMethod (⟨"GraphNames$Reader", "readLines", "()V"⟩ : MethodName) : Cond) := by decide +kernel
theorem w_612 : lw_tbl[612]? = some (.code (⟨"GraphNames$Reader", "readLines", "()V"⟩) prog_7_method_5_code 2 none : Cond) := by decide +kernel
theorem w_613 : lw_tbl[613]? = some (.methodLink "GraphNames$Reader" (75) (⟨"GraphNames$Reader", "readLine", "()Z"⟩ : MethodName) : Cond) := by decide +kernel
theorem w_615 : lw_tbl[615]? = some (.instanceMethod (⟨"GraphNames$Reader", "readLine", "()Z"⟩ : MethodName) : Cond) := by decide +kernel
theorem w_616 : lw_tbl[616]? = some (.code (⟨"GraphNames$Reader", "readLine", "()Z"⟩) prog_7_method_6_code 1 (some .boolean) : Cond) := by decide +kernel
theorem w_618 : lw_tbl[618]? = some (.methodLink "GraphNames$Reader" (80) (⟨"GraphNames$Reader", "readPaint", "()Z"⟩ : MethodName) : Cond) := by decide +kernel
theorem w_620 : lw_tbl[620]? = some (.instanceMethod (⟨"GraphNames$Reader", "readPaint", "()Z"⟩ : MethodName) : Cond) := by decide +kernel
theorem w_621 : lw_tbl[621]? = some (.code (⟨"GraphNames$Reader", "readPaint", "()Z"⟩) prog_7_method_7_code 2 (some .boolean) : Cond) := by decide +kernel
theorem w_622 : lw_tbl[622]? = some (.methodLink "GraphNames$Reader" (96) (⟨"GraphNames$Reader", "isVertex", "()Z"⟩ : MethodName) : Cond) := by decide +kernel
theorem w_624 : lw_tbl[624]? = some (.instanceMethod (⟨"GraphNames$Reader", "isVertex", "()Z"⟩ : MethodName) : Cond) := by decide +kernel
theorem w_625 : lw_tbl[625]? = some (.code (⟨"GraphNames$Reader", "isVertex", "()Z"⟩) prog_7_method_12_code 1 (some .boolean) : Cond) := by decide +kernel
theorem w_626 : lw_tbl[626]? = some (.methodLink "GraphNames$Reader" (117) (⟨"GraphNames$Graph", "has", "(I)Z"⟩ : MethodName) : Cond) := by decide +kernel
theorem w_627 : lw_tbl[627]? = some (.instanceMethod (⟨"GraphNames$Graph", "has", "(I)Z"⟩ : MethodName) : Cond) := by decide +kernel
theorem w_628 : lw_tbl[628]? = some (.selects "GraphNames$Graph" (⟨"GraphNames$Graph", "has", "(I)Z"⟩ : MethodName) (⟨"GraphNames$Graph", "has", "(I)Z"⟩ : MethodName) : Cond) := by decide +kernel
theorem w_629 : lw_tbl[629]? = some (.code (⟨"GraphNames$Graph", "has", "(I)Z"⟩) prog_3_method_2_code 2 (some .boolean) : Cond) := by decide +kernel
theorem w_630 : lw_tbl[630]? = some (.methodLinkNest "GraphNames$Reader" (99) (⟨"GraphNames", "in", "(II)Z"⟩ : MethodName) "GraphNames" : Cond) := by decide +kernel
theorem w_631 : lw_tbl[631]? = some (.static (⟨"GraphNames", "in", "(II)Z"⟩ : MethodName) : Cond) := by decide +kernel
theorem w_632 : lw_tbl[632]? = some (.code (⟨"GraphNames", "in", "(II)Z"⟩) prog_1_method_54_code 2 (some .boolean) : Cond) := by decide +kernel
theorem w_634 : lw_tbl[634]? = some (.methodLink "GraphNames$Reader" (85) (⟨"GraphNames$Reader", "readLink", "()Z"⟩ : MethodName) : Cond) := by decide +kernel
theorem w_636 : lw_tbl[636]? = some (.instanceMethod (⟨"GraphNames$Reader", "readLink", "()Z"⟩ : MethodName) : Cond) := by decide +kernel
theorem w_637 : lw_tbl[637]? = some (.code (⟨"GraphNames$Reader", "readLink", "()Z"⟩) prog_7_method_8_code 3 (some .boolean) : Cond) := by decide +kernel
theorem w_638 : lw_tbl[638]? = some (.methodLink "GraphNames$Reader" (106) (⟨"GraphNames$Reader", "joins", "(II)Z"⟩ : MethodName) : Cond) := by decide +kernel
theorem w_640 : lw_tbl[640]? = some (.instanceMethod (⟨"GraphNames$Reader", "joins", "(II)Z"⟩ : MethodName) : Cond) := by decide +kernel
theorem w_641 : lw_tbl[641]? = some (.code (⟨"GraphNames$Reader", "joins", "(II)Z"⟩) prog_7_method_10_code 3 (some .boolean) : Cond) := by decide +kernel
theorem w_642 : lw_tbl[642]? = some (.methodLink "GraphNames$Reader" (109) (⟨"GraphNames$Graph", "join", "(III)V"⟩ : MethodName) : Cond) := by decide +kernel
theorem w_644 : lw_tbl[644]? = some (.methodLink "GraphNames$Reader" (90) (⟨"GraphNames$Reader", "readChain", "(IZ)Z"⟩ : MethodName) : Cond) := by decide +kernel
theorem w_646 : lw_tbl[646]? = some (.instanceMethod (⟨"GraphNames$Reader", "readChain", "(IZ)Z"⟩ : MethodName) : Cond) := by decide +kernel
theorem w_647 : lw_tbl[647]? = some (.code (⟨"GraphNames$Reader", "readChain", "(IZ)Z"⟩) prog_7_method_9_code 7 (some .boolean) : Cond) := by decide +kernel
theorem w_649 : lw_tbl[649]? = some (.methodLink "GraphNames" (108) (⟨"GraphNames$Past", "keep", "(ILGraphNames$Graph;)V"⟩ : MethodName) : Cond) := by decide +kernel
theorem w_650 : lw_tbl[650]? = some (.instanceMethod (⟨"GraphNames$Past", "keep", "(ILGraphNames$Graph;)V"⟩ : MethodName) : Cond) := by decide +kernel
theorem w_651 : lw_tbl[651]? = some (.selects "GraphNames$Past" (⟨"GraphNames$Past", "keep", "(ILGraphNames$Graph;)V"⟩ : MethodName) (⟨"GraphNames$Past", "keep", "(ILGraphNames$Graph;)V"⟩ : MethodName) : Cond) := by decide +kernel
theorem w_652 : lw_tbl[652]? = some (.code (⟨"GraphNames$Past", "keep", "(ILGraphNames$Graph;)V"⟩) prog_6_method_2_code 3 none : Cond) := by decide +kernel
theorem w_653 : lw_tbl[653]? = some (.methodLink "GraphNames$Past" (29) (⟨"GraphNames$Graph", "take", "(LGraphNames$Graph;)V"⟩ : MethodName) : Cond) := by decide +kernel
theorem w_654 : lw_tbl[654]? = some (.instanceMethod (⟨"GraphNames$Graph", "take", "(LGraphNames$Graph;)V"⟩ : MethodName) : Cond) := by decide +kernel
theorem w_655 : lw_tbl[655]? = some (.selects "GraphNames$Graph" (⟨"GraphNames$Graph", "take", "(LGraphNames$Graph;)V"⟩ : MethodName) (⟨"GraphNames$Graph", "take", "(LGraphNames$Graph;)V"⟩ : MethodName) : Cond) := by decide +kernel
theorem w_656 : lw_tbl[656]? = some (.code (⟨"GraphNames$Graph", "take", "(LGraphNames$Graph;)V"⟩) prog_3_method_13_code 3 none : Cond) := by decide +kernel
theorem w_660 : lw_tbl[660]? = some (.methodLink "GraphNames$Past" (33) (⟨"java/lang/Math", "min", "(II)I"⟩ : MethodName) : Cond) := by decide +kernel
theorem w_661 : lw_tbl[661]? = some (.static (⟨"java/lang/Math", "min", "(II)I"⟩ : MethodName) : Cond) := by decide +kernel
theorem w_662 : lw_tbl[662]? = some (.code (⟨"java/lang/Math", "min", "(II)I"⟩) prog_18_method_69_code 2 (some .int) : Cond) := by decide +kernel
theorem w_663 : lw_tbl[663]? = some (.methodLink "GraphNames" (115) (⟨"GraphNames$Graph", "take", "(LGraphNames$Graph;)V"⟩ : MethodName) : Cond) := by decide +kernel
theorem w_664 : lw_tbl[664]? = some (.methodLink "GraphNames" (122) (⟨"GraphNames", "answered", "(I)I"⟩ : MethodName) : Cond) := by decide +kernel
theorem w_666 : lw_tbl[666]? = some (.instanceMethod (⟨"GraphNames", "answered", "(I)I"⟩ : MethodName) : Cond) := by decide +kernel
theorem w_667 : lw_tbl[667]? = some (.code (⟨"GraphNames", "answered", "(I)I"⟩) prog_1_method_45_code 2 (some .int) : Cond) := by decide +kernel
theorem w_669 : lw_tbl[669]? = some (.methodLink "GraphNamesLaw" (28) (⟨"GraphNames", "fault", "()I"⟩ : MethodName) : Cond) := by decide +kernel
theorem w_670 : lw_tbl[670]? = some (.instanceMethod (⟨"GraphNames", "fault", "()I"⟩ : MethodName) : Cond) := by decide +kernel
theorem w_671 : lw_tbl[671]? = some (.selects "GraphNames" (⟨"GraphNames", "fault", "()I"⟩ : MethodName) (⟨"GraphNames", "fault", "()I"⟩ : MethodName) : Cond) := by decide +kernel
theorem w_672 : lw_tbl[672]? = some (.code (⟨"GraphNames", "fault", "()I"⟩) prog_1_method_4_code 1 (some .int) : Cond) := by decide +kernel
theorem w_673 : lw_tbl[673]? = some (.methodLink "GraphNamesLaw" (33) (⟨"GraphNames", "where", "()I"⟩ : MethodName) : Cond) := by decide +kernel
theorem w_674 : lw_tbl[674]? = some (.instanceMethod (⟨"GraphNames", "where", "()I"⟩ : MethodName) : Cond) := by decide +kernel
theorem w_675 : lw_tbl[675]? = some (.selects "GraphNames" (⟨"GraphNames", "where", "()I"⟩ : MethodName) (⟨"GraphNames", "where", "()I"⟩ : MethodName) : Cond) := by decide +kernel
theorem w_676 : lw_tbl[676]? = some (.code (⟨"GraphNames", "where", "()I"⟩) prog_1_method_5_code 1 (some .int) : Cond) := by decide +kernel
theorem w_677 : lw_tbl[677]? = some (.methodLink "GraphNamesLaw" (37) (⟨"GraphNames", "graph", "(II)I"⟩ : MethodName) : Cond) := by decide +kernel
theorem w_678 : lw_tbl[678]? = some (.instanceMethod (⟨"GraphNames", "graph", "(II)I"⟩ : MethodName) : Cond) := by decide +kernel
theorem w_679 : lw_tbl[679]? = some (.selects "GraphNames" (⟨"GraphNames", "graph", "(II)I"⟩ : MethodName) (⟨"GraphNames", "graph", "(II)I"⟩ : MethodName) : Cond) := by decide +kernel
theorem w_680 : lw_tbl[680]? = some (.code (⟨"GraphNames", "graph", "(II)I"⟩) prog_1_method_6_code 4 (some .int) : Cond) := by decide +kernel
theorem w_681 : lw_tbl[681]? = some (.methodLink "GraphNames" (128) (⟨"GraphNames$Graph", "links", "()I"⟩ : MethodName) : Cond) := by decide +kernel
theorem w_682 : lw_tbl[682]? = some (.instanceMethod (⟨"GraphNames$Graph", "links", "()I"⟩ : MethodName) : Cond) := by decide +kernel
theorem w_683 : lw_tbl[683]? = some (.selects "GraphNames$Graph" (⟨"GraphNames$Graph", "links", "()I"⟩ : MethodName) (⟨"GraphNames$Graph", "links", "()I"⟩ : MethodName) : Cond) := by decide +kernel
theorem w_684 : lw_tbl[684]? = some (.code (⟨"GraphNames$Graph", "links", "()I"⟩) prog_3_method_4_code 3 (some .int) : Cond) := by decide +kernel
theorem w_685 : lw_tbl[685]? = some (.methodLink "GraphNames$Graph" (27) (⟨"java/lang/Integer", "bitCount", "(I)I"⟩ : MethodName) : Cond) := by decide +kernel
theorem w_686 : lw_tbl[686]? = some (.static (⟨"java/lang/Integer", "bitCount", "(I)I"⟩ : MethodName) : Cond) := by decide +kernel
theorem w_687 : lw_tbl[687]? = some (.code (⟨"java/lang/Integer", "bitCount", "(I)I"⟩) prog_17_method_49_code 1 (some .int) : Cond) := by decide +kernel
theorem w_688 : lw_tbl[688]? = some (.constant "java/lang/Integer" 265 (1431655765) : Cond) := by decide +kernel
theorem w_689 : lw_tbl[689]? = some (.constant "java/lang/Integer" 266 (858993459) : Cond) := by decide +kernel
theorem w_690 : lw_tbl[690]? = some (.constant "java/lang/Integer" 267 (252645135) : Cond) := by decide +kernel
theorem w_691 : lw_tbl[691]? = some (.methodLink "GraphNames" (132) (⟨"GraphNames$Cells", "byColours", "(LGraphNames$Graph;)V"⟩ : MethodName) : Cond) := by decide +kernel
theorem w_692 : lw_tbl[692]? = some (.instanceMethod (⟨"GraphNames$Cells", "byColours", "(LGraphNames$Graph;)V"⟩ : MethodName) : Cond) := by decide +kernel
theorem w_693 : lw_tbl[693]? = some (.selects "GraphNames$Cells" (⟨"GraphNames$Cells", "byColours", "(LGraphNames$Graph;)V"⟩ : MethodName) (⟨"GraphNames$Cells", "byColours", "(LGraphNames$Graph;)V"⟩ : MethodName) : Cond) := by decide +kernel
theorem w_694 : lw_tbl[694]? = some (.code (⟨"GraphNames$Cells", "byColours", "(LGraphNames$Graph;)V"⟩) prog_2_method_3_code 5 none : Cond) := by decide +kernel
theorem w_695 : lw_tbl[695]? = some (.methodLink "GraphNames" (136) (⟨"GraphNames$Graph", "mostLinks", "()I"⟩ : MethodName) : Cond) := by decide +kernel
theorem w_696 : lw_tbl[696]? = some (.instanceMethod (⟨"GraphNames$Graph", "mostLinks", "()I"⟩ : MethodName) : Cond) := by decide +kernel
theorem w_697 : lw_tbl[697]? = some (.selects "GraphNames$Graph" (⟨"GraphNames$Graph", "mostLinks", "()I"⟩ : MethodName) (⟨"GraphNames$Graph", "mostLinks", "()I"⟩ : MethodName) : Cond) := by decide +kernel
theorem w_698 : lw_tbl[698]? = some (.code (⟨"GraphNames$Graph", "mostLinks", "()I"⟩) prog_3_method_5_code 3 (some .int) : Cond) := by decide +kernel
theorem w_699 : lw_tbl[699]? = some (.methodLink "GraphNames$Graph" (33) (⟨"java/lang/Math", "max", "(II)I"⟩ : MethodName) : Cond) := by decide +kernel
theorem w_700 : lw_tbl[700]? = some (.static (⟨"java/lang/Math", "max", "(II)I"⟩ : MethodName) : Cond) := by decide +kernel
theorem w_701 : lw_tbl[701]? = some (.code (⟨"java/lang/Math", "max", "(II)I"⟩) prog_18_method_65_code 2 (some .int) : Cond) := by decide +kernel
theorem w_702 : lw_tbl[702]? = some (.methodLink "GraphNamesLaw" (41) (⟨"GraphNames", "colour", "(II)I"⟩ : MethodName) : Cond) := by decide +kernel
theorem w_703 : lw_tbl[703]? = some (.instanceMethod (⟨"GraphNames", "colour", "(II)I"⟩ : MethodName) : Cond) := by decide +kernel
theorem w_704 : lw_tbl[704]? = some (.selects "GraphNames" (⟨"GraphNames", "colour", "(II)I"⟩ : MethodName) (⟨"GraphNames", "colour", "(II)I"⟩ : MethodName) : Cond) := by decide +kernel
theorem w_705 : lw_tbl[705]? = some (.code (⟨"GraphNames", "colour", "(II)I"⟩) prog_1_method_7_code 4 (some .int) : Cond) := by decide +kernel
theorem w_706 : lw_tbl[706]? = some (.methodLink "GraphNames" (139) (⟨"GraphNames$Graph", "has", "(I)Z"⟩ : MethodName) : Cond) := by decide +kernel
theorem w_707 : lw_tbl[707]? = some (.methodLink "GraphNamesLaw" (45) (⟨"GraphNames", "kind", "(III)I"⟩ : MethodName) : Cond) := by decide +kernel
theorem w_708 : lw_tbl[708]? = some (.instanceMethod (⟨"GraphNames", "kind", "(III)I"⟩ : MethodName) : Cond) := by decide +kernel
theorem w_709 : lw_tbl[709]? = some (.selects "GraphNames" (⟨"GraphNames", "kind", "(III)I"⟩ : MethodName) (⟨"GraphNames", "kind", "(III)I"⟩ : MethodName) : Cond) := by decide +kernel
theorem w_710 : lw_tbl[710]? = some (.code (⟨"GraphNames", "kind", "(III)I"⟩) prog_1_method_8_code 5 (some .int) : Cond) := by decide +kernel
theorem w_711 : lw_tbl[711]? = some (.methodLink "GraphNamesLaw" (50) (⟨"GraphNames", "degree", "(III)I"⟩ : MethodName) : Cond) := by decide +kernel
theorem w_712 : lw_tbl[712]? = some (.instanceMethod (⟨"GraphNames", "degree", "(III)I"⟩ : MethodName) : Cond) := by decide +kernel
theorem w_713 : lw_tbl[713]? = some (.selects "GraphNames" (⟨"GraphNames", "degree", "(III)I"⟩ : MethodName) (⟨"GraphNames", "degree", "(III)I"⟩ : MethodName) : Cond) := by decide +kernel
theorem w_714 : lw_tbl[714]? = some (.code (⟨"GraphNames", "degree", "(III)I"⟩) prog_1_method_9_code 5 (some .int) : Cond) := by decide +kernel
theorem w_715 : lw_tbl[715]? = some (.methodLink "GraphNames" (154) (⟨"java/lang/Integer", "bitCount", "(I)I"⟩ : MethodName) : Cond) := by decide +kernel
theorem w_716 : lw_tbl[716]? = some (.methodLink "GraphNamesLaw" (54) (⟨"GraphNames", "start", "(II)I"⟩ : MethodName) : Cond) := by decide +kernel
theorem w_717 : lw_tbl[717]? = some (.instanceMethod (⟨"GraphNames", "start", "(II)I"⟩ : MethodName) : Cond) := by decide +kernel
theorem w_718 : lw_tbl[718]? = some (.selects "GraphNames" (⟨"GraphNames", "start", "(II)I"⟩ : MethodName) (⟨"GraphNames", "start", "(II)I"⟩ : MethodName) : Cond) := by decide +kernel
theorem w_719 : lw_tbl[719]? = some (.code (⟨"GraphNames", "start", "(II)I"⟩) prog_1_method_10_code 5 (some .int) : Cond) := by decide +kernel
theorem w_720 : lw_tbl[720]? = some (.methodLink "GraphNames" (159) (⟨"GraphNames$Cells", "refine", "(LGraphNames$Graph;)V"⟩ : MethodName) : Cond) := by decide +kernel
theorem w_721 : lw_tbl[721]? = some (.instanceMethod (⟨"GraphNames$Cells", "refine", "(LGraphNames$Graph;)V"⟩ : MethodName) : Cond) := by decide +kernel
theorem w_722 : lw_tbl[722]? = some (.selects "GraphNames$Cells" (⟨"GraphNames$Cells", "refine", "(LGraphNames$Graph;)V"⟩ : MethodName) (⟨"GraphNames$Cells", "refine", "(LGraphNames$Graph;)V"⟩ : MethodName) : Cond) := by decide +kernel
theorem w_723 : lw_tbl[723]? = some (.code (⟨"GraphNames$Cells", "refine", "(LGraphNames$Graph;)V"⟩) prog_2_method_4_code 2 none : Cond) := by decide +kernel
theorem w_724 : lw_tbl[724]? = some (.methodLink "GraphNames$Cells" (48) (⟨"GraphNames$Cells", "divide", "(LGraphNames$Graph;)Z"⟩ : MethodName) : Cond) := by decide +kernel
theorem w_725 : lw_tbl[725]? = some (.instanceMethod (⟨"GraphNames$Cells", "divide", "(LGraphNames$Graph;)Z"⟩ : MethodName) : Cond) := by decide +kernel
theorem w_726 : lw_tbl[726]? = some (.selects "GraphNames$Cells" (⟨"GraphNames$Cells", "divide", "(LGraphNames$Graph;)Z"⟩ : MethodName) (⟨"GraphNames$Cells", "divide", "(LGraphNames$Graph;)Z"⟩ : MethodName) : Cond) := by decide +kernel
theorem w_727 : lw_tbl[727]? = some (.code (⟨"GraphNames$Cells", "divide", "(LGraphNames$Graph;)Z"⟩) prog_2_method_5_code 3 (some .boolean) : Cond) := by decide +kernel
theorem w_728 : lw_tbl[728]? = some (.methodLink "GraphNames$Cells" (52) (⟨"GraphNames$Cells", "signOf", "(LGraphNames$Graph;I)J"⟩ : MethodName) : Cond) := by decide +kernel
theorem w_730 : lw_tbl[730]? = some (.instanceMethod (⟨"GraphNames$Cells", "signOf", "(LGraphNames$Graph;I)J"⟩ : MethodName) : Cond) := by decide +kernel
theorem w_731 : lw_tbl[731]? = some (.code (⟨"GraphNames$Cells", "signOf", "(LGraphNames$Graph;I)J"⟩) prog_2_method_6_code 7 (some .long) : Cond) := by decide +kernel
theorem w_732 : lw_tbl[732]? = some (.methodLink "GraphNames$Cells" (70) (⟨"java/lang/Integer", "bitCount", "(I)I"⟩ : MethodName) : Cond) := by decide +kernel
theorem w_733 : lw_tbl[733]? = some (.methodLink "GraphNames$Cells" (56) (⟨"GraphNames$Cells", "split", "(I)V"⟩ : MethodName) : Cond) := by decide +kernel
theorem w_735 : lw_tbl[735]? = some (.instanceMethod (⟨"GraphNames$Cells", "split", "(I)V"⟩ : MethodName) : Cond) := by decide +kernel
theorem w_736 : lw_tbl[736]? = some (.code (⟨"GraphNames$Cells", "split", "(I)V"⟩) prog_2_method_7_code 7 none : Cond) := by decide +kernel
theorem w_737 : lw_tbl[737]? = some (.constantLong "GraphNames$Cells" 76 (9223372036854775807) : Cond) := by decide +kernel
theorem w_739 : lw_tbl[739]? = some (.methodLink "GraphNames" (165) (⟨"GraphNames$Cells", "target", "()I"⟩ : MethodName) : Cond) := by decide +kernel
theorem w_740 : lw_tbl[740]? = some (.instanceMethod (⟨"GraphNames$Cells", "target", "()I"⟩ : MethodName) : Cond) := by decide +kernel
theorem w_741 : lw_tbl[741]? = some (.selects "GraphNames$Cells" (⟨"GraphNames$Cells", "target", "()I"⟩ : MethodName) (⟨"GraphNames$Cells", "target", "()I"⟩ : MethodName) : Cond) := by decide +kernel
theorem w_742 : lw_tbl[742]? = some (.code (⟨"GraphNames$Cells", "target", "()I"⟩) prog_2_method_9_code 4 (some .int) : Cond) := by decide +kernel
theorem w_743 : lw_tbl[743]? = some (.methodLink "GraphNamesLaw" (58) (⟨"GraphNames", "cell", "(II)I"⟩ : MethodName) : Cond) := by decide +kernel
theorem w_744 : lw_tbl[744]? = some (.instanceMethod (⟨"GraphNames", "cell", "(II)I"⟩ : MethodName) : Cond) := by decide +kernel
theorem w_745 : lw_tbl[745]? = some (.selects "GraphNames" (⟨"GraphNames", "cell", "(II)I"⟩ : MethodName) (⟨"GraphNames", "cell", "(II)I"⟩ : MethodName) : Cond) := by decide +kernel
theorem w_746 : lw_tbl[746]? = some (.code (⟨"GraphNames", "cell", "(II)I"⟩) prog_1_method_11_code 4 (some .int) : Cond) := by decide +kernel
theorem w_747 : lw_tbl[747]? = some (.methodLink "GraphNames" (168) (⟨"GraphNames$Cells", "begin", "(LGraphNames$Graph;)V"⟩ : MethodName) : Cond) := by decide +kernel
theorem w_748 : lw_tbl[748]? = some (.instanceMethod (⟨"GraphNames$Cells", "begin", "(LGraphNames$Graph;)V"⟩ : MethodName) : Cond) := by decide +kernel
theorem w_749 : lw_tbl[749]? = some (.selects "GraphNames$Cells" (⟨"GraphNames$Cells", "begin", "(LGraphNames$Graph;)V"⟩ : MethodName) (⟨"GraphNames$Cells", "begin", "(LGraphNames$Graph;)V"⟩ : MethodName) : Cond) := by decide +kernel
theorem w_750 : lw_tbl[750]? = some (.code (⟨"GraphNames$Cells", "begin", "(LGraphNames$Graph;)V"⟩) prog_2_method_2_code 2 none : Cond) := by decide +kernel
theorem w_751 : lw_tbl[751]? = some (.methodLink "GraphNames$Cells" (35) (⟨"GraphNames$Cells", "byColours", "(LGraphNames$Graph;)V"⟩ : MethodName) : Cond) := by decide +kernel
theorem w_752 : lw_tbl[752]? = some (.methodLink "GraphNames$Cells" (39) (⟨"GraphNames$Cells", "refine", "(LGraphNames$Graph;)V"⟩ : MethodName) : Cond) := by decide +kernel
theorem w_753 : lw_tbl[753]? = some (.methodLink "GraphNamesLaw" (62) (⟨"GraphNames", "apart", "(III)I"⟩ : MethodName) : Cond) := by decide +kernel
theorem w_754 : lw_tbl[754]? = some (.instanceMethod (⟨"GraphNames", "apart", "(III)I"⟩ : MethodName) : Cond) := by decide +kernel
theorem w_755 : lw_tbl[755]? = some (.selects "GraphNames" (⟨"GraphNames", "apart", "(III)I"⟩ : MethodName) (⟨"GraphNames", "apart", "(III)I"⟩ : MethodName) : Cond) := by decide +kernel
theorem w_756 : lw_tbl[756]? = some (.code (⟨"GraphNames", "apart", "(III)I"⟩) prog_1_method_12_code 5 (some .int) : Cond) := by decide +kernel
theorem w_757 : lw_tbl[757]? = some (.methodLink "GraphNames" (174) (⟨"GraphNames", "in", "(II)Z"⟩ : MethodName) : Cond) := by decide +kernel
theorem w_758 : lw_tbl[758]? = some (.methodLink "GraphNames" (178) (⟨"GraphNames$Cells", "putAhead", "(I)V"⟩ : MethodName) : Cond) := by decide +kernel
theorem w_759 : lw_tbl[759]? = some (.instanceMethod (⟨"GraphNames$Cells", "putAhead", "(I)V"⟩ : MethodName) : Cond) := by decide +kernel
theorem w_760 : lw_tbl[760]? = some (.selects "GraphNames$Cells" (⟨"GraphNames$Cells", "putAhead", "(I)V"⟩ : MethodName) (⟨"GraphNames$Cells", "putAhead", "(I)V"⟩ : MethodName) : Cond) := by decide +kernel
theorem w_761 : lw_tbl[761]? = some (.code (⟨"GraphNames$Cells", "putAhead", "(I)V"⟩) prog_2_method_8_code 4 none : Cond) := by decide +kernel
theorem w_762 : lw_tbl[762]? = some (.methodLinkNest "GraphNames$Cells" (78) (⟨"GraphNames", "in", "(II)Z"⟩ : MethodName) "GraphNames" : Cond) := by decide +kernel
theorem w_763 : lw_tbl[763]? = some (.methodLink "GraphNames" (181) (⟨"GraphNames$Cells", "mark", "()I"⟩ : MethodName) : Cond) := by decide +kernel
theorem w_764 : lw_tbl[764]? = some (.instanceMethod (⟨"GraphNames$Cells", "mark", "()I"⟩ : MethodName) : Cond) := by decide +kernel
theorem w_765 : lw_tbl[765]? = some (.selects "GraphNames$Cells" (⟨"GraphNames$Cells", "mark", "()I"⟩ : MethodName) (⟨"GraphNames$Cells", "mark", "()I"⟩ : MethodName) : Cond) := by decide +kernel
theorem w_766 : lw_tbl[766]? = some (.code (⟨"GraphNames$Cells", "mark", "()I"⟩) prog_2_method_10_code 3 (some .int) : Cond) := by decide +kernel
theorem w_767 : lw_tbl[767]? = some (.methodLink "GraphNamesLaw" (66) (⟨"GraphNames", "tree", "(II)I"⟩ : MethodName) : Cond) := by decide +kernel
theorem w_768 : lw_tbl[768]? = some (.instanceMethod (⟨"GraphNames", "tree", "(II)I"⟩ : MethodName) : Cond) := by decide +kernel
theorem w_769 : lw_tbl[769]? = some (.selects "GraphNames" (⟨"GraphNames", "tree", "(II)I"⟩ : MethodName) (⟨"GraphNames", "tree", "(II)I"⟩ : MethodName) : Cond) := by decide +kernel
theorem w_770 : lw_tbl[770]? = some (.code (⟨"GraphNames", "tree", "(II)I"⟩) prog_1_method_13_code 5 (some .int) : Cond) := by decide +kernel
theorem w_771 : lw_tbl[771]? = some (.methodLink "GraphNames" (184) (⟨"GraphNames$Tree", "look", "(LGraphNames$Graph;)V"⟩ : MethodName) : Cond) := by decide +kernel
theorem w_772 : lw_tbl[772]? = some (.sameMethod "GraphNames$Tree" "GraphNames$Walk" "look" "(LGraphNames$Graph;)V" : Cond) := by decide +kernel
theorem w_774 : lw_tbl[774]? = some (.selects "GraphNames$Tree" (⟨"GraphNames$Tree", "look", "(LGraphNames$Graph;)V"⟩ : MethodName) (⟨"GraphNames$Walk", "look", "(LGraphNames$Graph;)V"⟩ : MethodName) : Cond) := by decide +kernel
theorem w_775 : lw_tbl[775]? = some (.instanceMethod (⟨"GraphNames$Walk", "look", "(LGraphNames$Graph;)V"⟩ : MethodName) : Cond) := by decide +kernel
theorem w_776 : lw_tbl[776]? = some (.code (⟨"GraphNames$Walk", "look", "(LGraphNames$Graph;)V"⟩) prog_10_method_6_code 2 none : Cond) := by decide +kernel
theorem w_777 : lw_tbl[777]? = some (.methodLink "GraphNames$Walk" (52) (⟨"GraphNames$Graph", "same", "(LGraphNames$Graph;)Z"⟩ : MethodName) : Cond) := by decide +kernel
theorem w_778 : lw_tbl[778]? = some (.instanceMethod (⟨"GraphNames$Graph", "same", "(LGraphNames$Graph;)Z"⟩ : MethodName) : Cond) := by decide +kernel
theorem w_779 : lw_tbl[779]? = some (.selects "GraphNames$Graph" (⟨"GraphNames$Graph", "same", "(LGraphNames$Graph;)Z"⟩ : MethodName) (⟨"GraphNames$Graph", "same", "(LGraphNames$Graph;)Z"⟩ : MethodName) : Cond) := by decide +kernel
theorem w_780 : lw_tbl[780]? = some (.code (⟨"GraphNames$Graph", "same", "(LGraphNames$Graph;)Z"⟩) prog_3_method_14_code 4 (some .boolean) : Cond) := by decide +kernel
theorem w_781 : lw_tbl[781]? = some (.methodLink "GraphNames$Walk" (56) (⟨"GraphNames$Graph", "take", "(LGraphNames$Graph;)V"⟩ : MethodName) : Cond) := by decide +kernel
theorem w_782 : lw_tbl[782]? = some (.methodLink "GraphNames$Walk" (60) (⟨"GraphNames$Walk", "forget", "()V"⟩ : MethodName) : Cond) := by decide +kernel
theorem w_783 : lw_tbl[783]? = some (.declares (⟨"GraphNames$Walk", "forget", "()V"⟩ : MethodName) : Cond) := by decide +kernel
theorem w_784 : lw_tbl[784]? = some (.sameMethod "GraphNames$Walk" "GraphNames$Walk" "forget" "()V" : Cond) := by decide +kernel
theorem w_785 : lw_tbl[785]? = some (.selects "GraphNames$Search" (⟨"GraphNames$Walk", "forget", "()V"⟩ : MethodName) (⟨"GraphNames$Search", "forget", "()V"⟩ : MethodName) : Cond) := by decide +kernel
theorem w_786 : lw_tbl[786]? = some (.instanceMethod (⟨"GraphNames$Search", "forget", "()V"⟩ : MethodName) : Cond) := by decide +kernel
theorem w_787 : lw_tbl[787]? = some (.code (⟨"GraphNames$Search", "forget", "()V"⟩) prog_8_method_2_code 1 none : Cond) := by decide +kernel
theorem w_788 : lw_tbl[788]? = some (.selects "GraphNames$Tree" (⟨"GraphNames$Walk", "forget", "()V"⟩ : MethodName) (⟨"GraphNames$Tree", "forget", "()V"⟩ : MethodName) : Cond) := by decide +kernel
theorem w_789 : lw_tbl[789]? = some (.instanceMethod (⟨"GraphNames$Tree", "forget", "()V"⟩ : MethodName) : Cond) := by decide +kernel
theorem w_790 : lw_tbl[790]? = some (.code (⟨"GraphNames$Tree", "forget", "()V"⟩) prog_9_method_2_code 1 none : Cond) := by decide +kernel
theorem w_791 : lw_tbl[791]? = some (.methodLink "GraphNames$Walk" (63) (⟨"GraphNames$Cells", "begin", "(LGraphNames$Graph;)V"⟩ : MethodName) : Cond) := by decide +kernel
theorem w_792 : lw_tbl[792]? = some (.methodLink "GraphNames$Walk" (70) (⟨"GraphNames$Cells", "mark", "()I"⟩ : MethodName) : Cond) := by decide +kernel
theorem w_796 : lw_tbl[796]? = some (.code (⟨"GraphNames$Walk", "come", "(II)V"⟩) prog_10_method_7_code 7 none : Cond) := by decide +kernel
theorem w_797 : lw_tbl[797]? = some (.methodLink "GraphNames$Walk" (78) (⟨"GraphNames$Cells", "target", "()I"⟩ : MethodName) : Cond) := by decide +kernel
theorem w_798 : lw_tbl[798]? = some (.methodLink "GraphNames$Walk" (81) (⟨"GraphNames$Leaf", "write", "(LGraphNames$Graph;LGraphNames$Cells;I)V"⟩ : MethodName) : Cond) := by decide +kernel
theorem w_799 : lw_tbl[799]? = some (.instanceMethod (⟨"GraphNames$Leaf", "write", "(LGraphNames$Graph;LGraphNames$Cells;I)V"⟩ : MethodName) : Cond) := by decide +kernel
theorem w_800 : lw_tbl[800]? = some (.selects "GraphNames$Leaf" (⟨"GraphNames$Leaf", "write", "(LGraphNames$Graph;LGraphNames$Cells;I)V"⟩ : MethodName) (⟨"GraphNames$Leaf", "write", "(LGraphNames$Graph;LGraphNames$Cells;I)V"⟩ : MethodName) : Cond) := by decide +kernel
theorem w_801 : lw_tbl[801]? = some (.code (⟨"GraphNames$Leaf", "write", "(LGraphNames$Graph;LGraphNames$Cells;I)V"⟩) prog_4_method_2_code 6 none : Cond) := by decide +kernel
theorem w_802 : lw_tbl[802]? = some (.methodLink "GraphNames$Leaf" (38) (⟨"java/lang/Integer", "numberOfTrailingZeros", "(I)I"⟩ : MethodName) : Cond) := by decide +kernel
theorem w_803 : lw_tbl[803]? = some (.static (⟨"java/lang/Integer", "numberOfTrailingZeros", "(I)I"⟩ : MethodName) : Cond) := by decide +kernel
theorem w_804 : lw_tbl[804]? = some (.code (⟨"java/lang/Integer", "numberOfTrailingZeros", "(I)I"⟩) prog_17_method_48_code 2 (some .int) : Cond) := by decide +kernel
theorem w_805 : lw_tbl[805]? = some (.constant "java/lang/Integer" 264 (65536) : Cond) := by decide +kernel
theorem w_806 : lw_tbl[806]? = some (.methodLink "GraphNames$Walk" (85) (⟨"GraphNames$Walk", "reach", "()V"⟩ : MethodName) : Cond) := by decide +kernel
theorem w_807 : lw_tbl[807]? = some (.declares (⟨"GraphNames$Walk", "reach", "()V"⟩ : MethodName) : Cond) := by decide +kernel
theorem w_808 : lw_tbl[808]? = some (.sameMethod "GraphNames$Walk" "GraphNames$Walk" "reach" "()V" : Cond) := by decide +kernel
theorem w_809 : lw_tbl[809]? = some (.selects "GraphNames$Search" (⟨"GraphNames$Walk", "reach", "()V"⟩ : MethodName) (⟨"GraphNames$Search", "reach", "()V"⟩ : MethodName) : Cond) := by decide +kernel
theorem w_810 : lw_tbl[810]? = some (.instanceMethod (⟨"GraphNames$Search", "reach", "()V"⟩ : MethodName) : Cond) := by decide +kernel
theorem w_811 : lw_tbl[811]? = some (.code (⟨"GraphNames$Search", "reach", "()V"⟩) prog_8_method_8_code 2 none : Cond) := by decide +kernel
theorem w_812 : lw_tbl[812]? = some (.methodLink "GraphNames$Search" (67) (⟨"GraphNames$Leaf", "take", "(LGraphNames$Leaf;)V"⟩ : MethodName) : Cond) := by decide +kernel
theorem w_813 : lw_tbl[813]? = some (.instanceMethod (⟨"GraphNames$Leaf", "take", "(LGraphNames$Leaf;)V"⟩ : MethodName) : Cond) := by decide +kernel
theorem w_814 : lw_tbl[814]? = some (.selects "GraphNames$Leaf" (⟨"GraphNames$Leaf", "take", "(LGraphNames$Leaf;)V"⟩ : MethodName) (⟨"GraphNames$Leaf", "take", "(LGraphNames$Leaf;)V"⟩ : MethodName) : Cond) := by decide +kernel
theorem w_815 : lw_tbl[815]? = some (.code (⟨"GraphNames$Leaf", "take", "(LGraphNames$Leaf;)V"⟩) prog_4_method_5_code 2 none : Cond) := by decide +kernel
theorem w_817 : lw_tbl[817]? = some (.methodLink "GraphNames$Search" (71) (⟨"GraphNames$Leaf", "compare", "(LGraphNames$Leaf;)I"⟩ : MethodName) : Cond) := by decide +kernel
theorem w_818 : lw_tbl[818]? = some (.instanceMethod (⟨"GraphNames$Leaf", "compare", "(LGraphNames$Leaf;)I"⟩ : MethodName) : Cond) := by decide +kernel
theorem w_819 : lw_tbl[819]? = some (.selects "GraphNames$Leaf" (⟨"GraphNames$Leaf", "compare", "(LGraphNames$Leaf;)I"⟩ : MethodName) (⟨"GraphNames$Leaf", "compare", "(LGraphNames$Leaf;)I"⟩ : MethodName) : Cond) := by decide +kernel
theorem w_820 : lw_tbl[820]? = some (.code (⟨"GraphNames$Leaf", "compare", "(LGraphNames$Leaf;)I"⟩) prog_4_method_3_code 4 (some .int) : Cond) := by decide +kernel
theorem w_821 : lw_tbl[821]? = some (.methodLink "GraphNames$Leaf" (51) (⟨"java/lang/Math", "min", "(II)I"⟩ : MethodName) : Cond) := by decide +kernel
theorem w_822 : lw_tbl[822]? = some (.methodLink "GraphNames$Leaf" (57) (⟨"java/lang/Integer", "compare", "(II)I"⟩ : MethodName) : Cond) := by decide +kernel
theorem w_823 : lw_tbl[823]? = some (.static (⟨"java/lang/Integer", "compare", "(II)I"⟩ : MethodName) : Cond) := by decide +kernel
theorem w_824 : lw_tbl[824]? = some (.code (⟨"java/lang/Integer", "compare", "(II)I"⟩) prog_17_method_40_code 2 (some .int) : Cond) := by decide +kernel
theorem w_825 : lw_tbl[825]? = some (.methodLink "GraphNames$Leaf" (60) (⟨"GraphNames$Leaf", "compareCodes", "(LGraphNames$Leaf;)I"⟩ : MethodName) : Cond) := by decide +kernel
theorem w_826 : lw_tbl[826]? = some (.instanceMethod (⟨"GraphNames$Leaf", "compareCodes", "(LGraphNames$Leaf;)I"⟩ : MethodName) : Cond) := by decide +kernel
theorem w_827 : lw_tbl[827]? = some (.selects "GraphNames$Leaf" (⟨"GraphNames$Leaf", "compareCodes", "(LGraphNames$Leaf;)I"⟩ : MethodName) (⟨"GraphNames$Leaf", "compareCodes", "(LGraphNames$Leaf;)I"⟩ : MethodName) : Cond) := by decide +kernel
theorem w_828 : lw_tbl[828]? = some (.code (⟨"GraphNames$Leaf", "compareCodes", "(LGraphNames$Leaf;)I"⟩) prog_4_method_4_code 3 (some .int) : Cond) := by decide +kernel
theorem w_829 : lw_tbl[829]? = some (.methodLink "GraphNames$Search" (75) (⟨"GraphNames$Search", "note", "(LGraphNames$Leaf;)V"⟩ : MethodName) : Cond) := by decide +kernel
theorem w_831 : lw_tbl[831]? = some (.instanceMethod (⟨"GraphNames$Search", "note", "(LGraphNames$Leaf;)V"⟩ : MethodName) : Cond) := by decide +kernel
theorem w_832 : lw_tbl[832]? = some (.code (⟨"GraphNames$Search", "note", "(LGraphNames$Leaf;)V"⟩) prog_8_method_9_code 4 none : Cond) := by decide +kernel
theorem w_833 : lw_tbl[833]? = some (.selects "GraphNames$Tree" (⟨"GraphNames$Walk", "reach", "()V"⟩ : MethodName) (⟨"GraphNames$Tree", "reach", "()V"⟩ : MethodName) : Cond) := by decide +kernel
theorem w_834 : lw_tbl[834]? = some (.instanceMethod (⟨"GraphNames$Tree", "reach", "()V"⟩ : MethodName) : Cond) := by decide +kernel
theorem w_835 : lw_tbl[835]? = some (.code (⟨"GraphNames$Tree", "reach", "()V"⟩) prog_9_method_5_code 2 none : Cond) := by decide +kernel
theorem w_836 : lw_tbl[836]? = some (.methodLink "GraphNames$Tree" (25) (⟨"java/lang/Math", "max", "(II)I"⟩ : MethodName) : Cond) := by decide +kernel
theorem w_837 : lw_tbl[837]? = some (.methodLink "GraphNames$Tree" (37) (⟨"GraphNames$Leaf", "compare", "(LGraphNames$Leaf;)I"⟩ : MethodName) : Cond) := by decide +kernel
theorem w_838 : lw_tbl[838]? = some (.methodLink "GraphNames$Tree" (41) (⟨"GraphNames$Leaf", "take", "(LGraphNames$Leaf;)V"⟩ : MethodName) : Cond) := by decide +kernel
theorem w_839 : lw_tbl[839]? = some (.methodLinkNest "GraphNames$Walk" (91) (⟨"GraphNames", "in", "(II)Z"⟩ : MethodName) "GraphNames" : Cond) := by decide +kernel
theorem w_840 : lw_tbl[840]? = some (.methodLink "GraphNames$Walk" (95) (⟨"GraphNames$Walk", "skips", "(III)Z"⟩ : MethodName) : Cond) := by decide +kernel
theorem w_841 : lw_tbl[841]? = some (.declares (⟨"GraphNames$Walk", "skips", "(III)Z"⟩ : MethodName) : Cond) := by decide +kernel
theorem w_842 : lw_tbl[842]? = some (.sameMethod "GraphNames$Walk" "GraphNames$Walk" "skips" "(III)Z" : Cond) := by decide +kernel
theorem w_843 : lw_tbl[843]? = some (.selects "GraphNames$Search" (⟨"GraphNames$Walk", "skips", "(III)Z"⟩ : MethodName) (⟨"GraphNames$Search", "skips", "(III)Z"⟩ : MethodName) : Cond) := by decide +kernel
theorem w_844 : lw_tbl[844]? = some (.instanceMethod (⟨"GraphNames$Search", "skips", "(III)Z"⟩ : MethodName) : Cond) := by decide +kernel
theorem w_845 : lw_tbl[845]? = some (.code (⟨"GraphNames$Search", "skips", "(III)Z"⟩) prog_8_method_3_code 4 (some .boolean) : Cond) := by decide +kernel
theorem w_846 : lw_tbl[846]? = some (.methodLink "GraphNames$Search" (29) (⟨"GraphNames$Search", "spread", "(II)I"⟩ : MethodName) : Cond) := by decide +kernel
theorem w_848 : lw_tbl[848]? = some (.instanceMethod (⟨"GraphNames$Search", "spread", "(II)I"⟩ : MethodName) : Cond) := by decide +kernel
theorem w_849 : lw_tbl[849]? = some (.code (⟨"GraphNames$Search", "spread", "(II)I"⟩) prog_8_method_4_code 7 (some .int) : Cond) := by decide +kernel
theorem w_850 : lw_tbl[850]? = some (.methodLink "GraphNames$Search" (37) (⟨"GraphNames$Search", "leavesAlone", "(II)Z"⟩ : MethodName) : Cond) := by decide +kernel
theorem w_852 : lw_tbl[852]? = some (.instanceMethod (⟨"GraphNames$Search", "leavesAlone", "(II)Z"⟩ : MethodName) : Cond) := by decide +kernel
theorem w_853 : lw_tbl[853]? = some (.code (⟨"GraphNames$Search", "leavesAlone", "(II)Z"⟩) prog_8_method_5_code 4 (some .boolean) : Cond) := by decide +kernel
theorem w_854 : lw_tbl[854]? = some (.methodLinkNest "GraphNames$Search" (33) (⟨"GraphNames", "in", "(II)Z"⟩ : MethodName) "GraphNames" : Cond) := by decide +kernel
theorem w_855 : lw_tbl[855]? = some (.methodLinkNest "GraphNames$Search" (52) (⟨"GraphNames", "sentTo", "(II)I"⟩ : MethodName) "GraphNames" : Cond) := by decide +kernel
theorem w_856 : lw_tbl[856]? = some (.static (⟨"GraphNames", "sentTo", "(II)I"⟩ : MethodName) : Cond) := by decide +kernel
theorem w_857 : lw_tbl[857]? = some (.code (⟨"GraphNames", "sentTo", "(II)I"⟩) prog_1_method_55_code 2 (some .int) : Cond) := by decide +kernel
theorem w_858 : lw_tbl[858]? = some (.methodLink "GraphNames$Search" (40) (⟨"GraphNames$Search", "imageOf", "(II)I"⟩ : MethodName) : Cond) := by decide +kernel
theorem w_860 : lw_tbl[860]? = some (.instanceMethod (⟨"GraphNames$Search", "imageOf", "(II)I"⟩ : MethodName) : Cond) := by decide +kernel
theorem w_861 : lw_tbl[861]? = some (.code (⟨"GraphNames$Search", "imageOf", "(II)I"⟩) prog_8_method_6_code 5 (some .int) : Cond) := by decide +kernel
theorem w_862 : lw_tbl[862]? = some (.selects "GraphNames$Tree" (⟨"GraphNames$Walk", "skips", "(III)Z"⟩ : MethodName) (⟨"GraphNames$Tree", "skips", "(III)Z"⟩ : MethodName) : Cond) := by decide +kernel
theorem w_863 : lw_tbl[863]? = some (.instanceMethod (⟨"GraphNames$Tree", "skips", "(III)Z"⟩ : MethodName) : Cond) := by decide +kernel
theorem w_864 : lw_tbl[864]? = some (.code (⟨"GraphNames$Tree", "skips", "(III)Z"⟩) prog_9_method_3_code 4 (some .boolean) : Cond) := by decide +kernel
theorem w_865 : lw_tbl[865]? = some (.methodLink "GraphNames$Walk" (99) (⟨"GraphNames$Cells", "take", "(LGraphNames$Cells;)V"⟩ : MethodName) : Cond) := by decide +kernel
theorem w_866 : lw_tbl[866]? = some (.instanceMethod (⟨"GraphNames$Cells", "take", "(LGraphNames$Cells;)V"⟩ : MethodName) : Cond) := by decide +kernel
theorem w_867 : lw_tbl[867]? = some (.selects "GraphNames$Cells" (⟨"GraphNames$Cells", "take", "(LGraphNames$Cells;)V"⟩ : MethodName) (⟨"GraphNames$Cells", "take", "(LGraphNames$Cells;)V"⟩ : MethodName) : Cond) := by decide +kernel
theorem w_868 : lw_tbl[868]? = some (.code (⟨"GraphNames$Cells", "take", "(LGraphNames$Cells;)V"⟩) prog_2_method_11_code 2 none : Cond) := by decide +kernel
theorem w_869 : lw_tbl[869]? = some (.methodLink "GraphNames$Walk" (102) (⟨"GraphNames$Cells", "putAhead", "(I)V"⟩ : MethodName) : Cond) := by decide +kernel
theorem w_870 : lw_tbl[870]? = some (.methodLink "GraphNames$Walk" (106) (⟨"GraphNames$Cells", "refine", "(LGraphNames$Graph;)V"⟩ : MethodName) : Cond) := by decide +kernel
theorem w_871 : lw_tbl[871]? = some (.methodLink "GraphNames$Walk" (109) (⟨"GraphNames$Walk", "cuts", "(I)Z"⟩ : MethodName) : Cond) := by decide +kernel
theorem w_872 : lw_tbl[872]? = some (.declares (⟨"GraphNames$Walk", "cuts", "(I)Z"⟩ : MethodName) : Cond) := by decide +kernel
theorem w_873 : lw_tbl[873]? = some (.sameMethod "GraphNames$Walk" "GraphNames$Walk" "cuts" "(I)Z" : Cond) := by decide +kernel
theorem w_874 : lw_tbl[874]? = some (.selects "GraphNames$Search" (⟨"GraphNames$Walk", "cuts", "(I)Z"⟩ : MethodName) (⟨"GraphNames$Search", "cuts", "(I)Z"⟩ : MethodName) : Cond) := by decide +kernel
theorem w_875 : lw_tbl[875]? = some (.instanceMethod (⟨"GraphNames$Search", "cuts", "(I)Z"⟩ : MethodName) : Cond) := by decide +kernel
theorem w_876 : lw_tbl[876]? = some (.code (⟨"GraphNames$Search", "cuts", "(I)Z"⟩) prog_8_method_7_code 3 (some .boolean) : Cond) := by decide +kernel
theorem w_877 : lw_tbl[877]? = some (.selects "GraphNames$Tree" (⟨"GraphNames$Walk", "cuts", "(I)Z"⟩ : MethodName) (⟨"GraphNames$Tree", "cuts", "(I)Z"⟩ : MethodName) : Cond) := by decide +kernel
theorem w_878 : lw_tbl[878]? = some (.instanceMethod (⟨"GraphNames$Tree", "cuts", "(I)Z"⟩ : MethodName) : Cond) := by decide +kernel
theorem w_879 : lw_tbl[879]? = some (.code (⟨"GraphNames$Tree", "cuts", "(I)Z"⟩) prog_9_method_4_code 2 (some .boolean) : Cond) := by decide +kernel
theorem w_880 : lw_tbl[880]? = some (.methodLink "GraphNamesLaw" (70) (⟨"GraphNames", "search", "(II)I"⟩ : MethodName) : Cond) := by decide +kernel
theorem w_881 : lw_tbl[881]? = some (.instanceMethod (⟨"GraphNames", "search", "(II)I"⟩ : MethodName) : Cond) := by decide +kernel
theorem w_882 : lw_tbl[882]? = some (.selects "GraphNames" (⟨"GraphNames", "search", "(II)I"⟩ : MethodName) (⟨"GraphNames", "search", "(II)I"⟩ : MethodName) : Cond) := by decide +kernel
theorem w_883 : lw_tbl[883]? = some (.code (⟨"GraphNames", "search", "(II)I"⟩) prog_1_method_14_code 5 (some .int) : Cond) := by decide +kernel
theorem w_884 : lw_tbl[884]? = some (.methodLink "GraphNames" (206) (⟨"GraphNames", "searchOf", "(I)LGraphNames$Search;"⟩ : MethodName) : Cond) := by decide +kernel
theorem w_886 : lw_tbl[886]? = some (.instanceMethod (⟨"GraphNames", "searchOf", "(I)LGraphNames$Search;"⟩ : MethodName) : Cond) := by decide +kernel
theorem w_887 : lw_tbl[887]? = some (.code (⟨"GraphNames", "searchOf", "(I)LGraphNames$Search;"⟩) prog_1_method_47_code 3 (some (.object "GraphNames$Search")) : Cond) := by decide +kernel
theorem w_888 : lw_tbl[888]? = some (.methodLink "GraphNames" (320) (⟨"GraphNames$Search", "look", "(LGraphNames$Graph;)V"⟩ : MethodName) : Cond) := by decide +kernel
theorem w_889 : lw_tbl[889]? = some (.sameMethod "GraphNames$Search" "GraphNames$Walk" "look" "(LGraphNames$Graph;)V" : Cond) := by decide +kernel
theorem w_890 : lw_tbl[890]? = some (.selects "GraphNames$Search" (⟨"GraphNames$Search", "look", "(LGraphNames$Graph;)V"⟩ : MethodName) (⟨"GraphNames$Walk", "look", "(LGraphNames$Graph;)V"⟩ : MethodName) : Cond) := by decide +kernel
theorem w_891 : lw_tbl[891]? = some (.methodLink "GraphNamesLaw" (74) (⟨"GraphNames", "name", "(II)I"⟩ : MethodName) : Cond) := by decide +kernel
theorem w_892 : lw_tbl[892]? = some (.instanceMethod (⟨"GraphNames", "name", "(II)I"⟩ : MethodName) : Cond) := by decide +kernel
theorem w_893 : lw_tbl[893]? = some (.selects "GraphNames" (⟨"GraphNames", "name", "(II)I"⟩ : MethodName) (⟨"GraphNames", "name", "(II)I"⟩ : MethodName) : Cond) := by decide +kernel
theorem w_894 : lw_tbl[894]? = some (.code (⟨"GraphNames", "name", "(II)I"⟩) prog_1_method_15_code 4 (some .int) : Cond) := by decide +kernel
theorem w_895 : lw_tbl[895]? = some (.methodLink "GraphNamesLaw" (78) (⟨"GraphNames", "place", "(II)I"⟩ : MethodName) : Cond) := by decide +kernel
theorem w_896 : lw_tbl[896]? = some (.instanceMethod (⟨"GraphNames", "place", "(II)I"⟩ : MethodName) : Cond) := by decide +kernel
theorem w_897 : lw_tbl[897]? = some (.selects "GraphNames" (⟨"GraphNames", "place", "(II)I"⟩ : MethodName) (⟨"GraphNames", "place", "(II)I"⟩ : MethodName) : Cond) := by decide +kernel
theorem w_898 : lw_tbl[898]? = some (.code (⟨"GraphNames", "place", "(II)I"⟩) prog_1_method_16_code 4 (some .int) : Cond) := by decide +kernel
theorem w_899 : lw_tbl[899]? = some (.methodLink "GraphNamesLaw" (82) (⟨"GraphNames", "less", "(II)I"⟩ : MethodName) : Cond) := by decide +kernel
theorem w_900 : lw_tbl[900]? = some (.instanceMethod (⟨"GraphNames", "less", "(II)I"⟩ : MethodName) : Cond) := by decide +kernel
theorem w_901 : lw_tbl[901]? = some (.selects "GraphNames" (⟨"GraphNames", "less", "(II)I"⟩ : MethodName) (⟨"GraphNames", "less", "(II)I"⟩ : MethodName) : Cond) := by decide +kernel
theorem w_902 : lw_tbl[902]? = some (.code (⟨"GraphNames", "less", "(II)I"⟩) prog_1_method_17_code 6 (some .int) : Cond) := by decide +kernel
theorem w_903 : lw_tbl[903]? = some (.methodLink "GraphNames" (234) (⟨"GraphNames$Leaf", "compareCodes", "(LGraphNames$Leaf;)I"⟩ : MethodName) : Cond) := by decide +kernel
theorem w_904 : lw_tbl[904]? = some (.methodLink "GraphNamesLaw" (86) (⟨"GraphNames", "generator", "(III)I"⟩ : MethodName) : Cond) := by decide +kernel
theorem w_905 : lw_tbl[905]? = some (.instanceMethod (⟨"GraphNames", "generator", "(III)I"⟩ : MethodName) : Cond) := by decide +kernel
theorem w_906 : lw_tbl[906]? = some (.selects "GraphNames" (⟨"GraphNames", "generator", "(III)I"⟩ : MethodName) (⟨"GraphNames", "generator", "(III)I"⟩ : MethodName) : Cond) := by decide +kernel
theorem w_907 : lw_tbl[907]? = some (.code (⟨"GraphNames", "generator", "(III)I"⟩) prog_1_method_18_code 6 (some .int) : Cond) := by decide +kernel
theorem w_908 : lw_tbl[908]? = some (.methodLink "GraphNames" (241) (⟨"GraphNames", "sentTo", "(II)I"⟩ : MethodName) : Cond) := by decide +kernel
theorem w_909 : lw_tbl[909]? = some (.methodLink "GraphNamesLaw" (90) (⟨"GraphNames", "symmetries", "(II)I"⟩ : MethodName) : Cond) := by decide +kernel
theorem w_910 : lw_tbl[910]? = some (.instanceMethod (⟨"GraphNames", "symmetries", "(II)I"⟩ : MethodName) : Cond) := by decide +kernel
theorem w_911 : lw_tbl[911]? = some (.selects "GraphNames" (⟨"GraphNames", "symmetries", "(II)I"⟩ : MethodName) (⟨"GraphNames", "symmetries", "(II)I"⟩ : MethodName) : Cond) := by decide +kernel
theorem w_912 : lw_tbl[912]? = some (.code (⟨"GraphNames", "symmetries", "(II)I"⟩) prog_1_method_19_code 4 (some .int) : Cond) := by decide +kernel
theorem w_913 : lw_tbl[913]? = some (.methodLink "GraphNames" (245) (⟨"GraphNames$Pairing", "match", "(LGraphNames$Graph;LGraphNames$Graph;I)V"⟩ : MethodName) : Cond) := by decide +kernel
theorem w_914 : lw_tbl[914]? = some (.instanceMethod (⟨"GraphNames$Pairing", "match", "(LGraphNames$Graph;LGraphNames$Graph;I)V"⟩ : MethodName) : Cond) := by decide +kernel
theorem w_915 : lw_tbl[915]? = some (.selects "GraphNames$Pairing" (⟨"GraphNames$Pairing", "match", "(LGraphNames$Graph;LGraphNames$Graph;I)V"⟩ : MethodName) (⟨"GraphNames$Pairing", "match", "(LGraphNames$Graph;LGraphNames$Graph;I)V"⟩ : MethodName) : Cond) := by decide +kernel
theorem w_916 : lw_tbl[916]? = some (.code (⟨"GraphNames$Pairing", "match", "(LGraphNames$Graph;LGraphNames$Graph;I)V"⟩) prog_5_method_2_code 5 none : Cond) := by decide +kernel
theorem w_917 : lw_tbl[917]? = some (.methodLink "GraphNames$Pairing" (41) (⟨"GraphNames$Graph", "take", "(LGraphNames$Graph;)V"⟩ : MethodName) : Cond) := by decide +kernel
theorem w_918 : lw_tbl[918]? = some (.methodLink "GraphNames$Pairing" (48) (⟨"GraphNames$Pairing", "send", "(II)V"⟩ : MethodName) : Cond) := by decide +kernel
theorem w_920 : lw_tbl[920]? = some (.instanceMethod (⟨"GraphNames$Pairing", "send", "(II)V"⟩ : MethodName) : Cond) := by decide +kernel
theorem w_921 : lw_tbl[921]? = some (.code (⟨"GraphNames$Pairing", "send", "(II)V"⟩) prog_5_method_3_code 4 none : Cond) := by decide +kernel
theorem w_922 : lw_tbl[922]? = some (.methodLink "GraphNames$Pairing" (52) (⟨"GraphNames$Pairing", "note", "()V"⟩ : MethodName) : Cond) := by decide +kernel
theorem w_924 : lw_tbl[924]? = some (.instanceMethod (⟨"GraphNames$Pairing", "note", "()V"⟩ : MethodName) : Cond) := by decide +kernel
theorem w_925 : lw_tbl[925]? = some (.code (⟨"GraphNames$Pairing", "note", "()V"⟩) prog_5_method_6_code 2 none : Cond) := by decide +kernel
theorem w_927 : lw_tbl[927]? = some (.methodLinkNest "GraphNames$Pairing" (55) (⟨"GraphNames", "in", "(II)Z"⟩ : MethodName) "GraphNames" : Cond) := by decide +kernel
theorem w_928 : lw_tbl[928]? = some (.methodLink "GraphNames$Pairing" (59) (⟨"GraphNames$Pairing", "fits", "(II)Z"⟩ : MethodName) : Cond) := by decide +kernel
theorem w_930 : lw_tbl[930]? = some (.instanceMethod (⟨"GraphNames$Pairing", "fits", "(II)Z"⟩ : MethodName) : Cond) := by decide +kernel
theorem w_931 : lw_tbl[931]? = some (.code (⟨"GraphNames$Pairing", "fits", "(II)Z"⟩) prog_5_method_4_code 3 (some .boolean) : Cond) := by decide +kernel
theorem w_932 : lw_tbl[932]? = some (.methodLink "GraphNames$Pairing" (62) (⟨"GraphNames$Pairing", "unlike", "(II)I"⟩ : MethodName) : Cond) := by decide +kernel
theorem w_934 : lw_tbl[934]? = some (.instanceMethod (⟨"GraphNames$Pairing", "unlike", "(II)I"⟩ : MethodName) : Cond) := by decide +kernel
theorem w_935 : lw_tbl[935]? = some (.code (⟨"GraphNames$Pairing", "unlike", "(II)I"⟩) prog_5_method_5_code 5 (some .int) : Cond) := by decide +kernel
theorem w_936 : lw_tbl[936]? = some (.methodLink "GraphNames" (252) (⟨"GraphNames$Pairing", "orbits", "()I"⟩ : MethodName) : Cond) := by decide +kernel
theorem w_937 : lw_tbl[937]? = some (.instanceMethod (⟨"GraphNames$Pairing", "orbits", "()I"⟩ : MethodName) : Cond) := by decide +kernel
theorem w_938 : lw_tbl[938]? = some (.selects "GraphNames$Pairing" (⟨"GraphNames$Pairing", "orbits", "()I"⟩ : MethodName) (⟨"GraphNames$Pairing", "orbits", "()I"⟩ : MethodName) : Cond) := by decide +kernel
theorem w_939 : lw_tbl[939]? = some (.code (⟨"GraphNames$Pairing", "orbits", "()I"⟩) prog_5_method_7_code 3 (some .int) : Cond) := by decide +kernel
theorem w_940 : lw_tbl[940]? = some (.methodLink "GraphNames" (255) (⟨"GraphNames$Pairing", "unmoved", "()I"⟩ : MethodName) : Cond) := by decide +kernel
theorem w_941 : lw_tbl[941]? = some (.instanceMethod (⟨"GraphNames$Pairing", "unmoved", "()I"⟩ : MethodName) : Cond) := by decide +kernel
theorem w_942 : lw_tbl[942]? = some (.selects "GraphNames$Pairing" (⟨"GraphNames$Pairing", "unmoved", "()I"⟩ : MethodName) (⟨"GraphNames$Pairing", "unmoved", "()I"⟩ : MethodName) : Cond) := by decide +kernel
theorem w_943 : lw_tbl[943]? = some (.code (⟨"GraphNames$Pairing", "unmoved", "()I"⟩) prog_5_method_8_code 3 (some .int) : Cond) := by decide +kernel
theorem w_944 : lw_tbl[944]? = some (.methodLink "GraphNamesLaw" (94) (⟨"GraphNames", "orbit", "(II)I"⟩ : MethodName) : Cond) := by decide +kernel
theorem w_945 : lw_tbl[945]? = some (.instanceMethod (⟨"GraphNames", "orbit", "(II)I"⟩ : MethodName) : Cond) := by decide +kernel
theorem w_946 : lw_tbl[946]? = some (.selects "GraphNames" (⟨"GraphNames", "orbit", "(II)I"⟩ : MethodName) (⟨"GraphNames", "orbit", "(II)I"⟩ : MethodName) : Cond) := by decide +kernel
theorem w_947 : lw_tbl[947]? = some (.code (⟨"GraphNames", "orbit", "(II)I"⟩) prog_1_method_20_code 4 (some .int) : Cond) := by decide +kernel
theorem w_948 : lw_tbl[948]? = some (.methodLink "GraphNamesLaw" (98) (⟨"GraphNames", "leave", "(II)I"⟩ : MethodName) : Cond) := by decide +kernel
theorem w_949 : lw_tbl[949]? = some (.instanceMethod (⟨"GraphNames", "leave", "(II)I"⟩ : MethodName) : Cond) := by decide +kernel
theorem w_950 : lw_tbl[950]? = some (.selects "GraphNames" (⟨"GraphNames", "leave", "(II)I"⟩ : MethodName) (⟨"GraphNames", "leave", "(II)I"⟩ : MethodName) : Cond) := by decide +kernel
theorem w_951 : lw_tbl[951]? = some (.code (⟨"GraphNames", "leave", "(II)I"⟩) prog_1_method_21_code 4 (some .int) : Cond) := by decide +kernel
theorem w_952 : lw_tbl[952]? = some (.methodLink "GraphNames" (261) (⟨"GraphNames$Graph", "hasAll", "(I)Z"⟩ : MethodName) : Cond) := by decide +kernel
theorem w_953 : lw_tbl[953]? = some (.instanceMethod (⟨"GraphNames$Graph", "hasAll", "(I)Z"⟩ : MethodName) : Cond) := by decide +kernel
theorem w_954 : lw_tbl[954]? = some (.selects "GraphNames$Graph" (⟨"GraphNames$Graph", "hasAll", "(I)Z"⟩ : MethodName) (⟨"GraphNames$Graph", "hasAll", "(I)Z"⟩ : MethodName) : Cond) := by decide +kernel
theorem w_955 : lw_tbl[955]? = some (.code (⟨"GraphNames$Graph", "hasAll", "(I)Z"⟩) prog_3_method_3_code 2 (some .boolean) : Cond) := by decide +kernel
theorem w_956 : lw_tbl[956]? = some (.methodLink "GraphNamesLaw" (102) (⟨"GraphNames", "maps", "(II)I"⟩ : MethodName) : Cond) := by decide +kernel
theorem w_957 : lw_tbl[957]? = some (.instanceMethod (⟨"GraphNames", "maps", "(II)I"⟩ : MethodName) : Cond) := by decide +kernel
theorem w_958 : lw_tbl[958]? = some (.selects "GraphNames" (⟨"GraphNames", "maps", "(II)I"⟩ : MethodName) (⟨"GraphNames", "maps", "(II)I"⟩ : MethodName) : Cond) := by decide +kernel
theorem w_959 : lw_tbl[959]? = some (.code (⟨"GraphNames", "maps", "(II)I"⟩) prog_1_method_22_code 5 (some .int) : Cond) := by decide +kernel
theorem w_960 : lw_tbl[960]? = some (.methodLink "GraphNamesLaw" (106) (⟨"GraphNames", "map", "(III)I"⟩ : MethodName) : Cond) := by decide +kernel
theorem w_961 : lw_tbl[961]? = some (.instanceMethod (⟨"GraphNames", "map", "(III)I"⟩ : MethodName) : Cond) := by decide +kernel
theorem w_962 : lw_tbl[962]? = some (.selects "GraphNames" (⟨"GraphNames", "map", "(III)I"⟩ : MethodName) (⟨"GraphNames", "map", "(III)I"⟩ : MethodName) : Cond) := by decide +kernel
theorem w_963 : lw_tbl[963]? = some (.code (⟨"GraphNames", "map", "(III)I"⟩) prog_1_method_23_code 6 (some .int) : Cond) := by decide +kernel
theorem w_964 : lw_tbl[964]? = some (.methodLink "GraphNamesLaw" (110) (⟨"GraphNames", "changes", "(II)I"⟩ : MethodName) : Cond) := by decide +kernel
theorem w_965 : lw_tbl[965]? = some (.instanceMethod (⟨"GraphNames", "changes", "(II)I"⟩ : MethodName) : Cond) := by decide +kernel
theorem w_966 : lw_tbl[966]? = some (.selects "GraphNames" (⟨"GraphNames", "changes", "(II)I"⟩ : MethodName) (⟨"GraphNames", "changes", "(II)I"⟩ : MethodName) : Cond) := by decide +kernel
theorem w_967 : lw_tbl[967]? = some (.code (⟨"GraphNames", "changes", "(II)I"⟩) prog_1_method_24_code 5 (some .int) : Cond) := by decide +kernel
theorem w_968 : lw_tbl[968]? = some (.methodLink "GraphNames" (267) (⟨"GraphNames$Pairing", "leastChanges", "(LGraphNames$Graph;LGraphNames$Graph;)I"⟩ : MethodName) : Cond) := by decide +kernel
theorem w_969 : lw_tbl[969]? = some (.instanceMethod (⟨"GraphNames$Pairing", "leastChanges", "(LGraphNames$Graph;LGraphNames$Graph;)I"⟩ : MethodName) : Cond) := by decide +kernel
theorem w_970 : lw_tbl[970]? = some (.selects "GraphNames$Pairing" (⟨"GraphNames$Pairing", "leastChanges", "(LGraphNames$Graph;LGraphNames$Graph;)I"⟩ : MethodName) (⟨"GraphNames$Pairing", "leastChanges", "(LGraphNames$Graph;LGraphNames$Graph;)I"⟩ : MethodName) : Cond) := by decide +kernel
theorem w_971 : lw_tbl[971]? = some (.code (⟨"GraphNames$Pairing", "leastChanges", "(LGraphNames$Graph;LGraphNames$Graph;)I"⟩) prog_5_method_9_code 3 (some .int) : Cond) := by decide +kernel
theorem w_972 : lw_tbl[972]? = some (.methodLink "GraphNames$Pairing" (79) (⟨"GraphNames$Pairing", "weigh", "(III)V"⟩ : MethodName) : Cond) := by decide +kernel
theorem w_974 : lw_tbl[974]? = some (.instanceMethod (⟨"GraphNames$Pairing", "weigh", "(III)V"⟩ : MethodName) : Cond) := by decide +kernel
theorem w_975 : lw_tbl[975]? = some (.code (⟨"GraphNames$Pairing", "weigh", "(III)V"⟩) prog_5_method_10_code 5 none : Cond) := by decide +kernel
theorem w_976 : lw_tbl[976]? = some (.methodLink "GraphNamesLaw" (114) (⟨"GraphNames", "told", "(II)I"⟩ : MethodName) : Cond) := by decide +kernel
theorem w_977 : lw_tbl[977]? = some (.instanceMethod (⟨"GraphNames", "told", "(II)I"⟩ : MethodName) : Cond) := by decide +kernel
theorem w_978 : lw_tbl[978]? = some (.selects "GraphNames" (⟨"GraphNames", "told", "(II)I"⟩ : MethodName) (⟨"GraphNames", "told", "(II)I"⟩ : MethodName) : Cond) := by decide +kernel
theorem w_979 : lw_tbl[979]? = some (.code (⟨"GraphNames", "told", "(II)I"⟩) prog_1_method_25_code 5 (some .int) : Cond) := by decide +kernel
theorem w_980 : lw_tbl[980]? = some (.methodLink "GraphNames" (271) (⟨"GraphNames", "toldApart", "(LGraphNames$Graph;LGraphNames$Graph;)I"⟩ : MethodName) : Cond) := by decide +kernel
theorem w_982 : lw_tbl[982]? = some (.instanceMethod (⟨"GraphNames", "toldApart", "(LGraphNames$Graph;LGraphNames$Graph;)I"⟩ : MethodName) : Cond) := by decide +kernel
theorem w_983 : lw_tbl[983]? = some (.code (⟨"GraphNames", "toldApart", "(LGraphNames$Graph;LGraphNames$Graph;)I"⟩) prog_1_method_48_code 5 (some .int) : Cond) := by decide +kernel
theorem w_984 : lw_tbl[984]? = some (.methodLink "GraphNames" (321) (⟨"GraphNames$Cells", "alike", "(LGraphNames$Cells;)Z"⟩ : MethodName) : Cond) := by decide +kernel
theorem w_985 : lw_tbl[985]? = some (.instanceMethod (⟨"GraphNames$Cells", "alike", "(LGraphNames$Cells;)Z"⟩ : MethodName) : Cond) := by decide +kernel
theorem w_986 : lw_tbl[986]? = some (.selects "GraphNames$Cells" (⟨"GraphNames$Cells", "alike", "(LGraphNames$Cells;)Z"⟩ : MethodName) (⟨"GraphNames$Cells", "alike", "(LGraphNames$Cells;)Z"⟩ : MethodName) : Cond) := by decide +kernel
theorem w_987 : lw_tbl[987]? = some (.code (⟨"GraphNames$Cells", "alike", "(LGraphNames$Cells;)Z"⟩) prog_2_method_12_code 3 (some .boolean) : Cond) := by decide +kernel
theorem w_988 : lw_tbl[988]? = some (.methodLink "GraphNames" (325) (⟨"GraphNames$Cells", "divide", "(LGraphNames$Graph;)Z"⟩ : MethodName) : Cond) := by decide +kernel
theorem w_989 : lw_tbl[989]? = some (.methodLink "GraphNamesLaw" (118) (⟨"GraphNames", "cards", "(II)I"⟩ : MethodName) : Cond) := by decide +kernel
theorem w_990 : lw_tbl[990]? = some (.instanceMethod (⟨"GraphNames", "cards", "(II)I"⟩ : MethodName) : Cond) := by decide +kernel
theorem w_991 : lw_tbl[991]? = some (.selects "GraphNames" (⟨"GraphNames", "cards", "(II)I"⟩ : MethodName) (⟨"GraphNames", "cards", "(II)I"⟩ : MethodName) : Cond) := by decide +kernel
theorem w_992 : lw_tbl[992]? = some (.code (⟨"GraphNames", "cards", "(II)I"⟩) prog_1_method_26_code 4 (some .int) : Cond) := by decide +kernel
theorem w_993 : lw_tbl[993]? = some (.methodLink "GraphNames" (274) (⟨"GraphNames", "nameCards", "(LGraphNames$Graph;)V"⟩ : MethodName) : Cond) := by decide +kernel
theorem w_995 : lw_tbl[995]? = some (.instanceMethod (⟨"GraphNames", "nameCards", "(LGraphNames$Graph;)V"⟩ : MethodName) : Cond) := by decide +kernel
theorem w_996 : lw_tbl[996]? = some (.code (⟨"GraphNames", "nameCards", "(LGraphNames$Graph;)V"⟩) prog_1_method_49_code 3 none : Cond) := by decide +kernel
theorem w_997 : lw_tbl[997]? = some (.methodLink "GraphNames" (306) (⟨"GraphNames$Graph", "lose", "(I)V"⟩ : MethodName) : Cond) := by decide +kernel
theorem w_998 : lw_tbl[998]? = some (.instanceMethod (⟨"GraphNames$Graph", "lose", "(I)V"⟩ : MethodName) : Cond) := by decide +kernel
theorem w_999 : lw_tbl[999]? = some (.selects "GraphNames$Graph" (⟨"GraphNames$Graph", "lose", "(I)V"⟩ : MethodName) (⟨"GraphNames$Graph", "lose", "(I)V"⟩ : MethodName) : Cond) := by decide +kernel
theorem w_1000 : lw_tbl[1000]? = some (.code (⟨"GraphNames$Graph", "lose", "(I)V"⟩) prog_3_method_10_code 4 none : Cond) := by decide +kernel
theorem w_1001 : lw_tbl[1001]? = some (.methodLink "GraphNames$Graph" (47) (⟨"GraphNames$Graph", "exchange", "(II)V"⟩ : MethodName) : Cond) := by decide +kernel
theorem w_1002 : lw_tbl[1002]? = some (.instanceMethod (⟨"GraphNames$Graph", "exchange", "(II)V"⟩ : MethodName) : Cond) := by decide +kernel
theorem w_1003 : lw_tbl[1003]? = some (.selects "GraphNames$Graph" (⟨"GraphNames$Graph", "exchange", "(II)V"⟩ : MethodName) (⟨"GraphNames$Graph", "exchange", "(II)V"⟩ : MethodName) : Cond) := by decide +kernel
theorem w_1004 : lw_tbl[1004]? = some (.code (⟨"GraphNames$Graph", "exchange", "(II)V"⟩) prog_3_method_7_code 6 none : Cond) := by decide +kernel
theorem w_1005 : lw_tbl[1005]? = some (.methodLink "GraphNames" (329) (⟨"GraphNames$Leaf", "take", "(LGraphNames$Leaf;)V"⟩ : MethodName) : Cond) := by decide +kernel
theorem w_1006 : lw_tbl[1006]? = some (.methodLink "GraphNames" (277) (⟨"GraphNames", "unlikeCards", "(I)I"⟩ : MethodName) : Cond) := by decide +kernel
theorem w_1008 : lw_tbl[1008]? = some (.instanceMethod (⟨"GraphNames", "unlikeCards", "(I)I"⟩ : MethodName) : Cond) := by decide +kernel
theorem w_1009 : lw_tbl[1009]? = some (.code (⟨"GraphNames", "unlikeCards", "(I)I"⟩) prog_1_method_50_code 4 (some .int) : Cond) := by decide +kernel
theorem w_1010 : lw_tbl[1010]? = some (.methodLink "GraphNames" (280) (⟨"GraphNames", "cardsLike", "(II)I"⟩ : MethodName) : Cond) := by decide +kernel
theorem w_1012 : lw_tbl[1012]? = some (.instanceMethod (⟨"GraphNames", "cardsLike", "(II)I"⟩ : MethodName) : Cond) := by decide +kernel
theorem w_1013 : lw_tbl[1013]? = some (.code (⟨"GraphNames", "cardsLike", "(II)I"⟩) prog_1_method_51_code 5 (some .int) : Cond) := by decide +kernel
theorem w_1014 : lw_tbl[1014]? = some (.methodLink "GraphNamesLaw" (122) (⟨"GraphNames", "turned", "(I)I"⟩ : MethodName) : Cond) := by decide +kernel
theorem w_1015 : lw_tbl[1015]? = some (.instanceMethod (⟨"GraphNames", "turned", "(I)I"⟩ : MethodName) : Cond) := by decide +kernel
theorem w_1016 : lw_tbl[1016]? = some (.selects "GraphNames" (⟨"GraphNames", "turned", "(I)I"⟩ : MethodName) (⟨"GraphNames", "turned", "(I)I"⟩ : MethodName) : Cond) := by decide +kernel
theorem w_1017 : lw_tbl[1017]? = some (.code (⟨"GraphNames", "turned", "(I)I"⟩) prog_1_method_27_code 3 (some .int) : Cond) := by decide +kernel
theorem w_1018 : lw_tbl[1018]? = some (.methodLink "GraphNames" (283) (⟨"GraphNames$Graph", "turnKinds", "()V"⟩ : MethodName) : Cond) := by decide +kernel
theorem w_1019 : lw_tbl[1019]? = some (.instanceMethod (⟨"GraphNames$Graph", "turnKinds", "()V"⟩ : MethodName) : Cond) := by decide +kernel
theorem w_1020 : lw_tbl[1020]? = some (.selects "GraphNames$Graph" (⟨"GraphNames$Graph", "turnKinds", "()V"⟩ : MethodName) (⟨"GraphNames$Graph", "turnKinds", "()V"⟩ : MethodName) : Cond) := by decide +kernel
theorem w_1021 : lw_tbl[1021]? = some (.code (⟨"GraphNames$Graph", "turnKinds", "()V"⟩) prog_3_method_9_code 3 none : Cond) := by decide +kernel
theorem w_1022 : lw_tbl[1022]? = some (.methodLink "GraphNamesLaw" (127) (⟨"GraphNames", "base", "(II)I"⟩ : MethodName) : Cond) := by decide +kernel
theorem w_1023 : lw_tbl[1023]? = some (.instanceMethod (⟨"GraphNames", "base", "(II)I"⟩ : MethodName) : Cond) := by decide +kernel
theorem w_1024 : lw_tbl[1024]? = some (.selects "GraphNames" (⟨"GraphNames", "base", "(II)I"⟩ : MethodName) (⟨"GraphNames", "base", "(II)I"⟩ : MethodName) : Cond) := by decide +kernel
theorem w_1025 : lw_tbl[1025]? = some (.code (⟨"GraphNames", "base", "(II)I"⟩) prog_1_method_28_code 4 (some .int) : Cond) := by decide +kernel
theorem w_1026 : lw_tbl[1026]? = some (.methodLink "GraphNames" (286) (⟨"GraphNames", "cellsWith", "(LGraphNames$Graph;I)I"⟩ : MethodName) : Cond) := by decide +kernel
theorem w_1028 : lw_tbl[1028]? = some (.instanceMethod (⟨"GraphNames", "cellsWith", "(LGraphNames$Graph;I)I"⟩ : MethodName) : Cond) := by decide +kernel
theorem w_1029 : lw_tbl[1029]? = some (.code (⟨"GraphNames", "cellsWith", "(LGraphNames$Graph;I)I"⟩) prog_1_method_52_code 4 (some .int) : Cond) := by decide +kernel
theorem w_1030 : lw_tbl[1030]? = some (.methodLink "GraphNames" (332) (⟨"GraphNames$Cells", "take", "(LGraphNames$Cells;)V"⟩ : MethodName) : Cond) := by decide +kernel
theorem w_1031 : lw_tbl[1031]? = some (.methodLink "GraphNamesLaw" (131) (⟨"GraphNames", "fewest", "(I)I"⟩ : MethodName) : Cond) := by decide +kernel
theorem w_1032 : lw_tbl[1032]? = some (.instanceMethod (⟨"GraphNames", "fewest", "(I)I"⟩ : MethodName) : Cond) := by decide +kernel
theorem w_1033 : lw_tbl[1033]? = some (.selects "GraphNames" (⟨"GraphNames", "fewest", "(I)I"⟩ : MethodName) (⟨"GraphNames", "fewest", "(I)I"⟩ : MethodName) : Cond) := by decide +kernel
theorem w_1034 : lw_tbl[1034]? = some (.code (⟨"GraphNames", "fewest", "(I)I"⟩) prog_1_method_29_code 3 (some .int) : Cond) := by decide +kernel
theorem w_1035 : lw_tbl[1035]? = some (.methodLink "GraphNames" (290) (⟨"GraphNames", "fewestApart", "(LGraphNames$Graph;)I"⟩ : MethodName) : Cond) := by decide +kernel
theorem w_1037 : lw_tbl[1037]? = some (.instanceMethod (⟨"GraphNames", "fewestApart", "(LGraphNames$Graph;)I"⟩ : MethodName) : Cond) := by decide +kernel
theorem w_1038 : lw_tbl[1038]? = some (.code (⟨"GraphNames", "fewestApart", "(LGraphNames$Graph;)I"⟩) prog_1_method_53_code 5 (some .int) : Cond) := by decide +kernel
theorem w_1039 : lw_tbl[1039]? = some (.methodLink "GraphNamesLaw" (135) (⟨"GraphNames", "link", "(IIII)I"⟩ : MethodName) : Cond) := by decide +kernel
theorem w_1040 : lw_tbl[1040]? = some (.instanceMethod (⟨"GraphNames", "link", "(IIII)I"⟩ : MethodName) : Cond) := by decide +kernel
theorem w_1041 : lw_tbl[1041]? = some (.selects "GraphNames" (⟨"GraphNames", "link", "(IIII)I"⟩ : MethodName) (⟨"GraphNames", "link", "(IIII)I"⟩ : MethodName) : Cond) := by decide +kernel
theorem w_1042 : lw_tbl[1042]? = some (.code (⟨"GraphNames", "link", "(IIII)I"⟩) prog_1_method_30_code 7 (some .int) : Cond) := by decide +kernel
theorem w_1043 : lw_tbl[1043]? = some (.methodLink "GraphNames" (294) (⟨"GraphNames$Graph", "join", "(III)V"⟩ : MethodName) : Cond) := by decide +kernel
theorem w_1044 : lw_tbl[1044]? = some (.methodLink "GraphNamesLaw" (140) (⟨"GraphNames", "paint", "(III)I"⟩ : MethodName) : Cond) := by decide +kernel
theorem w_1045 : lw_tbl[1045]? = some (.instanceMethod (⟨"GraphNames", "paint", "(III)I"⟩ : MethodName) : Cond) := by decide +kernel
theorem w_1046 : lw_tbl[1046]? = some (.selects "GraphNames" (⟨"GraphNames", "paint", "(III)I"⟩ : MethodName) (⟨"GraphNames", "paint", "(III)I"⟩ : MethodName) : Cond) := by decide +kernel
theorem w_1047 : lw_tbl[1047]? = some (.code (⟨"GraphNames", "paint", "(III)I"⟩) prog_1_method_31_code 6 (some .int) : Cond) := by decide +kernel
theorem w_1048 : lw_tbl[1048]? = some (.methodLink "GraphNamesLaw" (144) (⟨"GraphNames", "swap", "(III)I"⟩ : MethodName) : Cond) := by decide +kernel
theorem w_1049 : lw_tbl[1049]? = some (.instanceMethod (⟨"GraphNames", "swap", "(III)I"⟩ : MethodName) : Cond) := by decide +kernel
theorem w_1050 : lw_tbl[1050]? = some (.selects "GraphNames" (⟨"GraphNames", "swap", "(III)I"⟩ : MethodName) (⟨"GraphNames", "swap", "(III)I"⟩ : MethodName) : Cond) := by decide +kernel
theorem w_1051 : lw_tbl[1051]? = some (.code (⟨"GraphNames", "swap", "(III)I"⟩) prog_1_method_32_code 5 (some .int) : Cond) := by decide +kernel
theorem w_1052 : lw_tbl[1052]? = some (.methodLink "GraphNames" (298) (⟨"GraphNames$Graph", "exchange", "(II)V"⟩ : MethodName) : Cond) := by decide +kernel
theorem w_1053 : lw_tbl[1053]? = some (.methodLink "GraphNamesLaw" (148) (⟨"GraphNames", "shuffle", "(II)I"⟩ : MethodName) : Cond) := by decide +kernel
theorem w_1054 : lw_tbl[1054]? = some (.instanceMethod (⟨"GraphNames", "shuffle", "(II)I"⟩ : MethodName) : Cond) := by decide +kernel
theorem w_1055 : lw_tbl[1055]? = some (.selects "GraphNames" (⟨"GraphNames", "shuffle", "(II)I"⟩ : MethodName) (⟨"GraphNames", "shuffle", "(II)I"⟩ : MethodName) : Cond) := by decide +kernel
theorem w_1056 : lw_tbl[1056]? = some (.code (⟨"GraphNames", "shuffle", "(II)I"⟩) prog_1_method_33_code 4 (some .int) : Cond) := by decide +kernel
theorem w_1057 : lw_tbl[1057]? = some (.constant "GraphNames" 302 (2147483647) : Cond) := by decide +kernel
theorem w_1058 : lw_tbl[1058]? = some (.methodLink "GraphNames" (303) (⟨"GraphNames$Graph", "mix", "(I)I"⟩ : MethodName) : Cond) := by decide +kernel
theorem w_1059 : lw_tbl[1059]? = some (.instanceMethod (⟨"GraphNames$Graph", "mix", "(I)I"⟩ : MethodName) : Cond) := by decide +kernel
theorem w_1060 : lw_tbl[1060]? = some (.selects "GraphNames$Graph" (⟨"GraphNames$Graph", "mix", "(I)I"⟩ : MethodName) (⟨"GraphNames$Graph", "mix", "(I)I"⟩ : MethodName) : Cond) := by decide +kernel
theorem w_1061 : lw_tbl[1061]? = some (.code (⟨"GraphNames$Graph", "mix", "(I)I"⟩) prog_3_method_8_code 7 (some .int) : Cond) := by decide +kernel
theorem w_1062 : lw_tbl[1062]? = some (.constantLong "GraphNames$Graph" 43 (48271) : Cond) := by decide +kernel
theorem w_1063 : lw_tbl[1063]? = some (.constantLong "GraphNames$Graph" 45 (2147483647) : Cond) := by decide +kernel
theorem w_1064 : lw_tbl[1064]? = some (.methodLink "GraphNamesLaw" (152) (⟨"GraphNames", "copy", "(II)I"⟩ : MethodName) : Cond) := by decide +kernel
theorem w_1065 : lw_tbl[1065]? = some (.instanceMethod (⟨"GraphNames", "copy", "(II)I"⟩ : MethodName) : Cond) := by decide +kernel
theorem w_1066 : lw_tbl[1066]? = some (.selects "GraphNames" (⟨"GraphNames", "copy", "(II)I"⟩ : MethodName) (⟨"GraphNames", "copy", "(II)I"⟩ : MethodName) : Cond) := by decide +kernel
theorem w_1067 : lw_tbl[1067]? = some (.code (⟨"GraphNames", "copy", "(II)I"⟩) prog_1_method_34_code 5 (some .int) : Cond) := by decide +kernel
theorem w_1068 : lw_tbl[1068]? = some (.methodLink "GraphNamesLaw" (156) (⟨"GraphNames", "turn", "(I)I"⟩ : MethodName) : Cond) := by decide +kernel
theorem w_1069 : lw_tbl[1069]? = some (.instanceMethod (⟨"GraphNames", "turn", "(I)I"⟩ : MethodName) : Cond) := by decide +kernel
theorem w_1070 : lw_tbl[1070]? = some (.selects "GraphNames" (⟨"GraphNames", "turn", "(I)I"⟩ : MethodName) (⟨"GraphNames", "turn", "(I)I"⟩ : MethodName) : Cond) := by decide +kernel
theorem w_1071 : lw_tbl[1071]? = some (.code (⟨"GraphNames", "turn", "(I)I"⟩) prog_1_method_35_code 3 (some .int) : Cond) := by decide +kernel
theorem w_1072 : lw_tbl[1072]? = some (.methodLink "GraphNamesLaw" (160) (⟨"GraphNames", "drop", "(II)I"⟩ : MethodName) : Cond) := by decide +kernel
theorem w_1073 : lw_tbl[1073]? = some (.instanceMethod (⟨"GraphNames", "drop", "(II)I"⟩ : MethodName) : Cond) := by decide +kernel
theorem w_1074 : lw_tbl[1074]? = some (.selects "GraphNames" (⟨"GraphNames", "drop", "(II)I"⟩ : MethodName) (⟨"GraphNames", "drop", "(II)I"⟩ : MethodName) : Cond) := by decide +kernel
theorem w_1075 : lw_tbl[1075]? = some (.code (⟨"GraphNames", "drop", "(II)I"⟩) prog_1_method_36_code 4 (some .int) : Cond) := by decide +kernel
theorem w_1076 : lw_tbl[1076]? = some (.methodLink "GraphNamesLaw" (164) (⟨"GraphNames", "grow", "(III)I"⟩ : MethodName) : Cond) := by decide +kernel
theorem w_1077 : lw_tbl[1077]? = some (.instanceMethod (⟨"GraphNames", "grow", "(III)I"⟩ : MethodName) : Cond) := by decide +kernel
theorem w_1078 : lw_tbl[1078]? = some (.selects "GraphNames" (⟨"GraphNames", "grow", "(III)I"⟩ : MethodName) (⟨"GraphNames", "grow", "(III)I"⟩ : MethodName) : Cond) := by decide +kernel
theorem w_1079 : lw_tbl[1079]? = some (.code (⟨"GraphNames", "grow", "(III)I"⟩) prog_1_method_37_code 5 (some .int) : Cond) := by decide +kernel
theorem w_1080 : lw_tbl[1080]? = some (.methodLink "GraphNames" (309) (⟨"GraphNames$Graph", "gain", "(II)V"⟩ : MethodName) : Cond) := by decide +kernel
theorem w_1081 : lw_tbl[1081]? = some (.instanceMethod (⟨"GraphNames$Graph", "gain", "(II)V"⟩ : MethodName) : Cond) := by decide +kernel
theorem w_1082 : lw_tbl[1082]? = some (.selects "GraphNames$Graph" (⟨"GraphNames$Graph", "gain", "(II)V"⟩ : MethodName) (⟨"GraphNames$Graph", "gain", "(II)V"⟩ : MethodName) : Cond) := by decide +kernel
theorem w_1083 : lw_tbl[1083]? = some (.code (⟨"GraphNames$Graph", "gain", "(II)V"⟩) prog_3_method_11_code 5 none : Cond) := by decide +kernel
theorem w_1084 : lw_tbl[1084]? = some (.methodLinkNest "GraphNames$Graph" (51) (⟨"GraphNames", "in", "(II)Z"⟩ : MethodName) "GraphNames" : Cond) := by decide +kernel
theorem w_1085 : lw_tbl[1085]? = some (.methodLink "GraphNamesLaw" (168) (⟨"GraphNames", "undo", "()I"⟩ : MethodName) : Cond) := by decide +kernel
theorem w_1086 : lw_tbl[1086]? = some (.instanceMethod (⟨"GraphNames", "undo", "()I"⟩ : MethodName) : Cond) := by decide +kernel
theorem w_1087 : lw_tbl[1087]? = some (.selects "GraphNames" (⟨"GraphNames", "undo", "()I"⟩ : MethodName) (⟨"GraphNames", "undo", "()I"⟩ : MethodName) : Cond) := by decide +kernel
theorem w_1088 : lw_tbl[1088]? = some (.code (⟨"GraphNames", "undo", "()I"⟩) prog_1_method_38_code 1 (some .int) : Cond) := by decide +kernel
theorem w_1089 : lw_tbl[1089]? = some (.methodLink "GraphNames" (313) (⟨"GraphNames$Past", "bringBack", "([LGraphNames$Graph;)V"⟩ : MethodName) : Cond) := by decide +kernel
theorem w_1090 : lw_tbl[1090]? = some (.instanceMethod (⟨"GraphNames$Past", "bringBack", "([LGraphNames$Graph;)V"⟩ : MethodName) : Cond) := by decide +kernel
theorem w_1091 : lw_tbl[1091]? = some (.selects "GraphNames$Past" (⟨"GraphNames$Past", "bringBack", "([LGraphNames$Graph;)V"⟩ : MethodName) (⟨"GraphNames$Past", "bringBack", "([LGraphNames$Graph;)V"⟩ : MethodName) : Cond) := by decide +kernel
theorem w_1092 : lw_tbl[1092]? = some (.code (⟨"GraphNames$Past", "bringBack", "([LGraphNames$Graph;)V"⟩) prog_6_method_3_code 2 none : Cond) := by decide +kernel
theorem w_1093 : lw_tbl[1093]? = some (.methodLink "GraphNamesLaw" (172) (⟨"GraphNames", "image", "(I)Z"⟩ : MethodName) : Cond) := by decide +kernel
theorem w_1094 : lw_tbl[1094]? = some (.instanceMethod (⟨"GraphNames", "image", "(I)Z"⟩ : MethodName) : Cond) := by decide +kernel
theorem w_1095 : lw_tbl[1095]? = some (.selects "GraphNames" (⟨"GraphNames", "image", "(I)Z"⟩ : MethodName) (⟨"GraphNames", "image", "(I)Z"⟩ : MethodName) : Cond) := by decide +kernel
theorem w_1096 : lw_tbl[1096]? = some (.code (⟨"GraphNames", "image", "(I)Z"⟩) prog_1_method_39_code 3 (some .boolean) : Cond) := by decide +kernel
theorem w_1097 : lw_tbl[1097]? = some (.methodLink "GraphNamesLaw" (177) (⟨"GraphNames", "again", "(I)Z"⟩ : MethodName) : Cond) := by decide +kernel
theorem w_1098 : lw_tbl[1098]? = some (.instanceMethod (⟨"GraphNames", "again", "(I)Z"⟩ : MethodName) : Cond) := by decide +kernel
theorem w_1099 : lw_tbl[1099]? = some (.selects "GraphNames" (⟨"GraphNames", "again", "(I)Z"⟩ : MethodName) (⟨"GraphNames", "again", "(I)Z"⟩ : MethodName) : Cond) := by decide +kernel
theorem w_1100 : lw_tbl[1100]? = some (.code (⟨"GraphNames", "again", "(I)Z"⟩) prog_1_method_40_code 3 (some .boolean) : Cond) := by decide +kernel
theorem w_1101 : lw_tbl[1101]? = some (.methodLink "GraphNamesLaw" (190) (⟨"GraphNames", "size", "()I"⟩ : MethodName) : Cond) := by decide +kernel
theorem w_1102 : lw_tbl[1102]? = some (.instanceMethod (⟨"GraphNames", "size", "()I"⟩ : MethodName) : Cond) := by decide +kernel
theorem w_1103 : lw_tbl[1103]? = some (.selects "GraphNames" (⟨"GraphNames", "size", "()I"⟩ : MethodName) (⟨"GraphNames", "size", "()I"⟩ : MethodName) : Cond) := by decide +kernel
theorem w_1104 : lw_tbl[1104]? = some (.code (⟨"GraphNames", "size", "()I"⟩) prog_1_method_42_code 1 (some .int) : Cond) := by decide +kernel
theorem w_1105 : lw_tbl[1105]? = some (.methodLink "GraphNamesLaw" (194) (⟨"GraphNames", "trouble", "()I"⟩ : MethodName) : Cond) := by decide +kernel
theorem w_1106 : lw_tbl[1106]? = some (.instanceMethod (⟨"GraphNames", "trouble", "()I"⟩ : MethodName) : Cond) := by decide +kernel
theorem w_1107 : lw_tbl[1107]? = some (.selects "GraphNames" (⟨"GraphNames", "trouble", "()I"⟩ : MethodName) (⟨"GraphNames", "trouble", "()I"⟩ : MethodName) : Cond) := by decide +kernel
theorem w_1108 : lw_tbl[1108]? = some (.code (⟨"GraphNames", "trouble", "()I"⟩) prog_1_method_43_code 1 (some .int) : Cond) := by decide +kernel
theorem w_1113 : lw_tbl[1113]? = some (.methodLink "GraphNamesLaw" (7) (⟨"GraphNames", "row", "(II)I"⟩ : MethodName) : Cond) := by decide +kernel
theorem w_1114 : lw_tbl[1114]? = some (.instanceMethod (⟨"GraphNames", "row", "(II)I"⟩ : MethodName) : Cond) := by decide +kernel
theorem w_1115 : lw_tbl[1115]? = some (.selects "GraphNames" (⟨"GraphNames", "row", "(II)I"⟩ : MethodName) (⟨"GraphNames", "row", "(II)I"⟩ : MethodName) : Cond) := by decide +kernel
theorem w_1116 : lw_tbl[1116]? = some (.code (⟨"GraphNames", "row", "(II)I"⟩) prog_1_method_41_code 4 (some .int) : Cond) := by decide +kernel
theorem w_1180 : lw_tbl[1180]? = some (.methodLink "GraphNamesLaw" (18) (⟨"GraphNamesModel", "<init>", "()V"⟩ : MethodName) : Cond) := by decide +kernel
theorem w_1181 : lw_tbl[1181]? = some (.instanceMethod (⟨"GraphNamesModel", "<init>", "()V"⟩ : MethodName) : Cond) := by decide +kernel
theorem w_1182 : lw_tbl[1182]? = some (.code (⟨"GraphNamesModel", "<init>", "()V"⟩) prog_12_method_1_code 2 none : Cond) := by decide +kernel
theorem w_1184 : lw_tbl[1184]? = some (.fieldLink "GraphNamesModel" (105) "GraphNamesModel" "thrown" "I" : Cond) := by decide +kernel
theorem w_1185 : lw_tbl[1185]? = some (.fieldLink "GraphNamesModel" (108) "GraphNamesModel" "trouble" "I" : Cond) := by decide +kernel
theorem w_1186 : lw_tbl[1186]? = some (.fieldLink "GraphNamesModel" (9) "GraphNamesModel" "place" "I" : Cond) := by decide +kernel
theorem w_1187 : lw_tbl[1187]? = some (.fieldLink "GraphNamesModel" (114) "GraphNamesModel" "fault" "I" : Cond) := by decide +kernel
theorem w_1188 : lw_tbl[1188]? = some (.fieldLink "GraphNamesModel" (13) "GraphNamesModel" "s" "[I" : Cond) := by decide +kernel
theorem w_1189 : lw_tbl[1189]? = some (.fieldLink "GraphNamesModel" (17) "GraphNamesModel" "past" "[I" : Cond) := by decide +kernel
theorem w_1190 : lw_tbl[1190]? = some (.fieldLink "GraphNamesModel" (457) "GraphNamesModel" "acts" "I" : Cond) := by decide +kernel
theorem w_1191 : lw_tbl[1191]? = some (.fieldLink "GraphNamesModel" (20) "GraphNamesModel" "kept" "[I" : Cond) := by decide +kernel
theorem w_1192 : lw_tbl[1192]? = some (.fieldLink "GraphNamesModel" (23) "GraphNamesModel" "isKept" "[Z" : Cond) := by decide +kernel
theorem w_1193 : lw_tbl[1193]? = some (.fieldLink "GraphNamesModel" (27) "GraphNamesModel" "tape" "[I" : Cond) := by decide +kernel
theorem w_1194 : lw_tbl[1194]? = some (.fieldLink "GraphNamesModel" (111) "GraphNamesModel" "taped" "I" : Cond) := by decide +kernel
theorem w_1195 : lw_tbl[1195]? = some (.fieldLink "GraphNamesModel" (117) "GraphNamesModel" "length" "I" : Cond) := by decide +kernel
theorem w_1196 : lw_tbl[1196]? = some (.fieldLink "GraphNamesModel" (120) "GraphNamesModel" "next" "I" : Cond) := by decide +kernel
theorem w_1197 : lw_tbl[1197]? = some (.fieldLink "GraphNamesModel" (127) "GraphNamesModel" "from" "I" : Cond) := by decide +kernel
theorem w_1198 : lw_tbl[1198]? = some (.fieldLink "GraphNamesModel" (130) "GraphNamesModel" "sort" "I" : Cond) := by decide +kernel
theorem w_1199 : lw_tbl[1199]? = some (.fieldLink "GraphNamesModel" (137) "GraphNamesModel" "word" "I" : Cond) := by decide +kernel
theorem w_1200 : lw_tbl[1200]? = some (.fieldLink "GraphNamesModel" (140) "GraphNamesModel" "digit" "I" : Cond) := by decide +kernel
theorem w_1201 : lw_tbl[1201]? = some (.fieldLink "GraphNamesModel" (143) "GraphNamesModel" "wrong" "I" : Cond) := by decide +kernel
theorem w_1202 : lw_tbl[1202]? = some (.fieldLink "GraphNamesModel" (146) "GraphNamesModel" "wrongAt" "I" : Cond) := by decide +kernel
theorem w_1203 : lw_tbl[1203]? = some (.fieldLink "GraphNamesModel" (30) "GraphNamesModel" "read" "[I" : Cond) := by decide +kernel
theorem w_1204 : lw_tbl[1204]? = some (.fieldLink "GraphNamesModel" (179) "GraphNamesModel" "painted" "I" : Cond) := by decide +kernel
theorem w_1205 : lw_tbl[1205]? = some (.fieldLink "GraphNamesModel" (256) "GraphNamesModel" "n" "I" : Cond) := by decide +kernel
theorem w_1206 : lw_tbl[1206]? = some (.fieldLink "GraphNamesModel" (33) "GraphNamesModel" "colours" "[I" : Cond) := by decide +kernel
theorem w_1207 : lw_tbl[1207]? = some (.fieldLink "GraphNamesModel" (36) "GraphNamesModel" "kinds" "[I" : Cond) := by decide +kernel
theorem w_1208 : lw_tbl[1208]? = some (.fieldLink "GraphNamesModel" (39) "GraphNamesModel" "cell" "[I" : Cond) := by decide +kernel
theorem w_1209 : lw_tbl[1209]? = some (.fieldLink "GraphNamesModel" (272) "GraphNamesModel" "cells" "I" : Cond) := by decide +kernel
theorem w_1210 : lw_tbl[1210]? = some (.fieldLink "GraphNamesModel" (42) "GraphNamesModel" "signs" "[I" : Cond) := by decide +kernel
theorem w_1211 : lw_tbl[1211]? = some (.fieldLink "GraphNamesModel" (45) "GraphNamesModel" "ranks" "[I" : Cond) := by decide +kernel
theorem w_1212 : lw_tbl[1212]? = some (.fieldLink "GraphNamesModel" (48) "GraphNamesModel" "saved" "[I" : Cond) := by decide +kernel
theorem w_1213 : lw_tbl[1213]? = some (.fieldLink "GraphNamesModel" (51) "GraphNamesModel" "marks" "[I" : Cond) := by decide +kernel
theorem w_1214 : lw_tbl[1214]? = some (.fieldLink "GraphNamesModel" (317) "GraphNamesModel" "nodes" "I" : Cond) := by decide +kernel
theorem w_1215 : lw_tbl[1215]? = some (.fieldLink "GraphNamesModel" (320) "GraphNamesModel" "leafs" "I" : Cond) := by decide +kernel
theorem w_1216 : lw_tbl[1216]? = some (.fieldLink "GraphNamesModel" (323) "GraphNamesModel" "deepest" "I" : Cond) := by decide +kernel
theorem w_1217 : lw_tbl[1217]? = some (.fieldLink "GraphNamesModel" (335) "GraphNamesModel" "alike" "I" : Cond) := by decide +kernel
theorem w_1218 : lw_tbl[1218]? = some (.fieldLink "GraphNamesModel" (54) "GraphNamesModel" "code" "[I" : Cond) := by decide +kernel
theorem w_1219 : lw_tbl[1219]? = some (.fieldLink "GraphNamesModel" (311) "GraphNamesModel" "bestDepth" "I" : Cond) := by decide +kernel
theorem w_1220 : lw_tbl[1220]? = some (.fieldLink "GraphNamesModel" (57) "GraphNamesModel" "bestMarks" "[I" : Cond) := by decide +kernel
theorem w_1221 : lw_tbl[1221]? = some (.fieldLink "GraphNamesModel" (60) "GraphNamesModel" "bestCode" "[I" : Cond) := by decide +kernel
theorem w_1222 : lw_tbl[1222]? = some (.fieldLink "GraphNamesModel" (63) "GraphNamesModel" "bestAt" "[I" : Cond) := by decide +kernel
theorem w_1223 : lw_tbl[1223]? = some (.fieldLink "GraphNamesModel" (66) "GraphNamesModel" "names" "[I" : Cond) := by decide +kernel
theorem w_1224 : lw_tbl[1224]? = some (.fieldLink "GraphNamesModel" (394) "GraphNamesModel" "cuts" "I" : Cond) := by decide +kernel
theorem w_1225 : lw_tbl[1225]? = some (.fieldLink "GraphNamesModel" (388) "GraphNamesModel" "skips" "I" : Cond) := by decide +kernel
theorem w_1226 : lw_tbl[1226]? = some (.fieldLink "GraphNamesModel" (363) "GraphNamesModel" "became" "I" : Cond) := by decide +kernel
theorem w_1227 : lw_tbl[1227]? = some (.fieldLink "GraphNamesModel" (69) "GraphNamesModel" "path" "[I" : Cond) := by decide +kernel
theorem w_1228 : lw_tbl[1228]? = some (.fieldLink "GraphNamesModel" (354) "GraphNamesModel" "firstDepth" "I" : Cond) := by decide +kernel
theorem w_1229 : lw_tbl[1229]? = some (.fieldLink "GraphNamesModel" (72) "GraphNamesModel" "firstMarks" "[I" : Cond) := by decide +kernel
theorem w_1230 : lw_tbl[1230]? = some (.fieldLink "GraphNamesModel" (75) "GraphNamesModel" "firstCode" "[I" : Cond) := by decide +kernel
theorem w_1231 : lw_tbl[1231]? = some (.fieldLink "GraphNamesModel" (78) "GraphNamesModel" "firstAt" "[I" : Cond) := by decide +kernel
theorem w_1232 : lw_tbl[1232]? = some (.fieldLink "GraphNamesModel" (81) "GraphNamesModel" "generators" "[I" : Cond) := by decide +kernel
theorem w_1233 : lw_tbl[1233]? = some (.fieldLink "GraphNamesModel" (357) "GraphNamesModel" "generatorMany" "I" : Cond) := by decide +kernel
theorem w_1234 : lw_tbl[1234]? = some (.fieldLink "GraphNamesModel" (403) "GraphNamesModel" "otherN" "I" : Cond) := by decide +kernel
theorem w_1235 : lw_tbl[1235]? = some (.fieldLink "GraphNamesModel" (84) "GraphNamesModel" "otherColours" "[I" : Cond) := by decide +kernel
theorem w_1236 : lw_tbl[1236]? = some (.fieldLink "GraphNamesModel" (87) "GraphNamesModel" "otherKinds" "[I" : Cond) := by decide +kernel
theorem w_1237 : lw_tbl[1237]? = some (.fieldLink "GraphNamesModel" (90) "GraphNamesModel" "sent" "[I" : Cond) := by decide +kernel
theorem w_1238 : lw_tbl[1238]? = some (.fieldLink "GraphNamesModel" (93) "GraphNamesModel" "leastMap" "[I" : Cond) := by decide +kernel
theorem w_1239 : lw_tbl[1239]? = some (.fieldLink "GraphNamesModel" (96) "GraphNamesModel" "orbits" "[I" : Cond) := by decide +kernel
theorem w_1240 : lw_tbl[1240]? = some (.fieldLink "GraphNamesModel" (409) "GraphNamesModel" "mapMany" "I" : Cond) := by decide +kernel
theorem w_1241 : lw_tbl[1241]? = some (.fieldLink "GraphNamesModel" (412) "GraphNamesModel" "mapLeft" "I" : Cond) := by decide +kernel
theorem w_1242 : lw_tbl[1242]? = some (.fieldLink "GraphNamesModel" (406) "GraphNamesModel" "leftSet" "I" : Cond) := by decide +kernel
theorem w_1243 : lw_tbl[1243]? = some (.fieldLink "GraphNamesModel" (430) "GraphNamesModel" "fewestChanges" "I" : Cond) := by decide +kernel
theorem w_1244 : lw_tbl[1244]? = some (.fieldLink "GraphNamesModel" (99) "GraphNamesModel" "otherCell" "[I" : Cond) := by decide +kernel
theorem w_1245 : lw_tbl[1245]? = some (.fieldLink "GraphNamesModel" (102) "GraphNamesModel" "otherSigns" "[I" : Cond) := by decide +kernel
theorem w_1246 : lw_tbl[1246]? = some (.fieldLink "GraphNamesModel" (467) "GraphNamesModel" "drawn" "J" : Cond) := by decide +kernel
theorem w_1374 : lw_tbl[1374]? = some (.methodLink "GraphNamesLaw" (187) (⟨"GraphNamesModel", "thrown", "()I"⟩ : MethodName) : Cond) := by decide +kernel
theorem w_1375 : lw_tbl[1375]? = some (.instanceMethod (⟨"GraphNamesModel", "thrown", "()I"⟩ : MethodName) : Cond) := by decide +kernel
theorem w_1376 : lw_tbl[1376]? = some (.selects "GraphNamesModel" (⟨"GraphNamesModel", "thrown", "()I"⟩ : MethodName) (⟨"GraphNamesModel", "thrown", "()I"⟩ : MethodName) : Cond) := by decide +kernel
theorem w_1377 : lw_tbl[1377]? = some (.code (⟨"GraphNamesModel", "thrown", "()I"⟩) prog_12_method_2_code 1 (some .int) : Cond) := by decide +kernel
theorem w_1378 : lw_tbl[1378]? = some (.methodLink "GraphNamesLaw" (23) (⟨"GraphNamesModel", "feed", "(IIIII)I"⟩ : MethodName) : Cond) := by decide +kernel
theorem w_1379 : lw_tbl[1379]? = some (.instanceMethod (⟨"GraphNamesModel", "feed", "(IIIII)I"⟩ : MethodName) : Cond) := by decide +kernel
theorem w_1380 : lw_tbl[1380]? = some (.selects "GraphNamesModel" (⟨"GraphNamesModel", "feed", "(IIIII)I"⟩ : MethodName) (⟨"GraphNamesModel", "feed", "(IIIII)I"⟩ : MethodName) : Cond) := by decide +kernel
theorem w_1381 : lw_tbl[1381]? = some (.code (⟨"GraphNamesModel", "feed", "(IIIII)I"⟩) prog_12_method_8_code 8 (some .int) : Cond) := by decide +kernel
theorem w_1382 : lw_tbl[1382]? = some (.methodLink "GraphNamesLaw" (193) (⟨"GraphNamesModel", "size", "()I"⟩ : MethodName) : Cond) := by decide +kernel
theorem w_1383 : lw_tbl[1383]? = some (.instanceMethod (⟨"GraphNamesModel", "size", "()I"⟩ : MethodName) : Cond) := by decide +kernel
theorem w_1384 : lw_tbl[1384]? = some (.selects "GraphNamesModel" (⟨"GraphNamesModel", "size", "()I"⟩ : MethodName) (⟨"GraphNamesModel", "size", "()I"⟩ : MethodName) : Cond) := by decide +kernel
theorem w_1385 : lw_tbl[1385]? = some (.code (⟨"GraphNamesModel", "size", "()I"⟩) prog_12_method_9_code 1 (some .int) : Cond) := by decide +kernel
theorem w_1386 : lw_tbl[1386]? = some (.methodLink "GraphNamesLaw" (197) (⟨"GraphNamesModel", "trouble", "()I"⟩ : MethodName) : Cond) := by decide +kernel
theorem w_1387 : lw_tbl[1387]? = some (.instanceMethod (⟨"GraphNamesModel", "trouble", "()I"⟩ : MethodName) : Cond) := by decide +kernel
theorem w_1388 : lw_tbl[1388]? = some (.selects "GraphNamesModel" (⟨"GraphNamesModel", "trouble", "()I"⟩ : MethodName) (⟨"GraphNamesModel", "trouble", "()I"⟩ : MethodName) : Cond) := by decide +kernel
theorem w_1389 : lw_tbl[1389]? = some (.code (⟨"GraphNamesModel", "trouble", "()I"⟩) prog_12_method_10_code 1 (some .int) : Cond) := by decide +kernel
theorem w_1390 : lw_tbl[1390]? = some (.methodLink "GraphNamesLaw" (32) (⟨"GraphNamesModel", "fault", "()I"⟩ : MethodName) : Cond) := by decide +kernel
theorem w_1391 : lw_tbl[1391]? = some (.instanceMethod (⟨"GraphNamesModel", "fault", "()I"⟩ : MethodName) : Cond) := by decide +kernel
theorem w_1392 : lw_tbl[1392]? = some (.selects "GraphNamesModel" (⟨"GraphNamesModel", "fault", "()I"⟩ : MethodName) (⟨"GraphNamesModel", "fault", "()I"⟩ : MethodName) : Cond) := by decide +kernel
theorem w_1393 : lw_tbl[1393]? = some (.code (⟨"GraphNamesModel", "fault", "()I"⟩) prog_12_method_11_code 1 (some .int) : Cond) := by decide +kernel
theorem w_1394 : lw_tbl[1394]? = some (.methodLink "GraphNamesLaw" (36) (⟨"GraphNamesModel", "where", "()I"⟩ : MethodName) : Cond) := by decide +kernel
theorem w_1395 : lw_tbl[1395]? = some (.instanceMethod (⟨"GraphNamesModel", "where", "()I"⟩ : MethodName) : Cond) := by decide +kernel
theorem w_1396 : lw_tbl[1396]? = some (.selects "GraphNamesModel" (⟨"GraphNamesModel", "where", "()I"⟩ : MethodName) (⟨"GraphNamesModel", "where", "()I"⟩ : MethodName) : Cond) := by decide +kernel
theorem w_1397 : lw_tbl[1397]? = some (.code (⟨"GraphNamesModel", "where", "()I"⟩) prog_12_method_12_code 1 (some .int) : Cond) := by decide +kernel
theorem w_1398 : lw_tbl[1398]? = some (.methodLink "GraphNamesLaw" (27) (⟨"GraphNamesModel", "text", "(II)I"⟩ : MethodName) : Cond) := by decide +kernel
theorem w_1399 : lw_tbl[1399]? = some (.instanceMethod (⟨"GraphNamesModel", "text", "(II)I"⟩ : MethodName) : Cond) := by decide +kernel
theorem w_1400 : lw_tbl[1400]? = some (.selects "GraphNamesModel" (⟨"GraphNamesModel", "text", "(II)I"⟩ : MethodName) (⟨"GraphNamesModel", "text", "(II)I"⟩ : MethodName) : Cond) := by decide +kernel
theorem w_1401 : lw_tbl[1401]? = some (.code (⟨"GraphNamesModel", "text", "(II)I"⟩) prog_12_method_32_code 4 (some .int) : Cond) := by decide +kernel
theorem w_1402 : lw_tbl[1402]? = some (.methodLink "GraphNamesModel" (215) (⟨"GraphNamesModel", "begins", "()V"⟩ : MethodName) : Cond) := by decide +kernel
theorem w_1404 : lw_tbl[1404]? = some (.instanceMethod (⟨"GraphNamesModel", "begins", "()V"⟩ : MethodName) : Cond) := by decide +kernel
theorem w_1405 : lw_tbl[1405]? = some (.code (⟨"GraphNamesModel", "begins", "()V"⟩) prog_12_method_6_code 1 none : Cond) := by decide +kernel
theorem w_1406 : lw_tbl[1406]? = some (.methodLink "GraphNamesModel" (218) (⟨"GraphNamesModel", "isGraph", "(I)Z"⟩ : MethodName) : Cond) := by decide +kernel
theorem w_1407 : lw_tbl[1407]? = some (.static (⟨"GraphNamesModel", "isGraph", "(I)Z"⟩ : MethodName) : Cond) := by decide +kernel
theorem w_1408 : lw_tbl[1408]? = some (.code (⟨"GraphNamesModel", "isGraph", "(I)Z"⟩) prog_12_method_33_code 1 (some .boolean) : Cond) := by decide +kernel
theorem w_1409 : lw_tbl[1409]? = some (.methodLink "GraphNamesModel" (156) (⟨"GraphNamesModel", "in", "(III)Z"⟩ : MethodName) : Cond) := by decide +kernel
theorem w_1410 : lw_tbl[1410]? = some (.static (⟨"GraphNamesModel", "in", "(III)Z"⟩ : MethodName) : Cond) := by decide +kernel
theorem w_1411 : lw_tbl[1411]? = some (.code (⟨"GraphNamesModel", "in", "(III)Z"⟩) prog_12_method_3_code 3 (some .boolean) : Cond) := by decide +kernel
theorem w_1412 : lw_tbl[1412]? = some (.methodLink "GraphNamesModel" (221) (⟨"GraphNamesModel", "refuse", "(ZI)Z"⟩ : MethodName) : Cond) := by decide +kernel
theorem w_1414 : lw_tbl[1414]? = some (.instanceMethod (⟨"GraphNamesModel", "refuse", "(ZI)Z"⟩ : MethodName) : Cond) := by decide +kernel
theorem w_1415 : lw_tbl[1415]? = some (.code (⟨"GraphNamesModel", "refuse", "(ZI)Z"⟩) prog_12_method_7_code 3 (some .boolean) : Cond) := by decide +kernel
theorem w_1416 : lw_tbl[1416]? = some (.methodLink "GraphNamesModel" (225) (⟨"GraphNamesModel", "reads", "(I)V"⟩ : MethodName) : Cond) := by decide +kernel
theorem w_1418 : lw_tbl[1418]? = some (.instanceMethod (⟨"GraphNamesModel", "reads", "(I)V"⟩ : MethodName) : Cond) := by decide +kernel
theorem w_1419 : lw_tbl[1419]? = some (.code (⟨"GraphNamesModel", "reads", "(I)V"⟩) prog_12_method_31_code 3 none : Cond) := by decide +kernel
theorem w_1420 : lw_tbl[1420]? = some (.methodLink "GraphNamesModel" (149) (⟨"GraphNamesModel", "token", "()V"⟩ : MethodName) : Cond) := by decide +kernel
theorem w_1422 : lw_tbl[1422]? = some (.instanceMethod (⟨"GraphNamesModel", "token", "()V"⟩ : MethodName) : Cond) := by decide +kernel
theorem w_1423 : lw_tbl[1423]? = some (.code (⟨"GraphNamesModel", "token", "()V"⟩) prog_12_method_15_code 3 none : Cond) := by decide +kernel
theorem w_1424 : lw_tbl[1424]? = some (.methodLink "GraphNamesModel" (123) (⟨"GraphNamesModel", "seen", "(I)I"⟩ : MethodName) : Cond) := by decide +kernel
theorem w_1426 : lw_tbl[1426]? = some (.instanceMethod (⟨"GraphNamesModel", "seen", "(I)I"⟩ : MethodName) : Cond) := by decide +kernel
theorem w_1427 : lw_tbl[1427]? = some (.code (⟨"GraphNamesModel", "seen", "(I)I"⟩) prog_12_method_13_code 2 (some .int) : Cond) := by decide +kernel
theorem w_1428 : lw_tbl[1428]? = some (.methodLink "GraphNamesModel" (133) (⟨"GraphNamesModel", "isLetter", "(I)Z"⟩ : MethodName) : Cond) := by decide +kernel
theorem w_1429 : lw_tbl[1429]? = some (.static (⟨"GraphNamesModel", "isLetter", "(I)Z"⟩ : MethodName) : Cond) := by decide +kernel
theorem w_1430 : lw_tbl[1430]? = some (.code (⟨"GraphNamesModel", "isLetter", "(I)Z"⟩) prog_12_method_14_code 1 (some .boolean) : Cond) := by decide +kernel
theorem w_1431 : lw_tbl[1431]? = some (.methodLink "GraphNamesModel" (195) (⟨"GraphNamesModel", "spelled", "(IIIII)I"⟩ : MethodName) : Cond) := by decide +kernel
theorem w_1432 : lw_tbl[1432]? = some (.static (⟨"GraphNamesModel", "spelled", "(IIIII)I"⟩ : MethodName) : Cond) := by decide +kernel
theorem w_1433 : lw_tbl[1433]? = some (.code (⟨"GraphNamesModel", "spelled", "(IIIII)I"⟩) prog_12_method_18_code 6 (some .int) : Cond) := by decide +kernel
theorem w_1434 : lw_tbl[1434]? = some (.methodLink "GraphNamesModel" (199) (⟨"GraphNamesModel", "isWord", "(I)Z"⟩ : MethodName) : Cond) := by decide +kernel
theorem w_1436 : lw_tbl[1436]? = some (.instanceMethod (⟨"GraphNamesModel", "isWord", "(I)Z"⟩ : MethodName) : Cond) := by decide +kernel
theorem w_1437 : lw_tbl[1437]? = some (.code (⟨"GraphNamesModel", "isWord", "(I)Z"⟩) prog_12_method_19_code 2 (some .boolean) : Cond) := by decide +kernel
theorem w_1438 : lw_tbl[1438]? = some (.methodLink "GraphNamesModel" (152) (⟨"GraphNamesModel", "fails", "(I)V"⟩ : MethodName) : Cond) := by decide +kernel
theorem w_1440 : lw_tbl[1440]? = some (.instanceMethod (⟨"GraphNamesModel", "fails", "(I)V"⟩ : MethodName) : Cond) := by decide +kernel
theorem w_1441 : lw_tbl[1441]? = some (.code (⟨"GraphNamesModel", "fails", "(I)V"⟩) prog_12_method_16_code 2 none : Cond) := by decide +kernel
theorem w_1442 : lw_tbl[1442]? = some (.methodLink "GraphNamesModel" (164) (⟨"GraphNamesModel", "goesOn", "()V"⟩ : MethodName) : Cond) := by decide +kernel
theorem w_1444 : lw_tbl[1444]? = some (.instanceMethod (⟨"GraphNamesModel", "goesOn", "()V"⟩ : MethodName) : Cond) := by decide +kernel
theorem w_1445 : lw_tbl[1445]? = some (.code (⟨"GraphNamesModel", "goesOn", "()V"⟩) prog_12_method_17_code 1 none : Cond) := by decide +kernel
theorem w_1446 : lw_tbl[1446]? = some (.methodLink "GraphNamesModel" (185) (⟨"GraphNamesModel", "takes", "(II)I"⟩ : MethodName) : Cond) := by decide +kernel
theorem w_1448 : lw_tbl[1448]? = some (.instanceMethod (⟨"GraphNamesModel", "takes", "(II)I"⟩ : MethodName) : Cond) := by decide +kernel
theorem w_1449 : lw_tbl[1449]? = some (.code (⟨"GraphNamesModel", "takes", "(II)I"⟩) prog_12_method_22_code 4 (some .int) : Cond) := by decide +kernel
theorem w_1450 : lw_tbl[1450]? = some (.methodLink "GraphNamesModel" (160) (⟨"GraphNamesModel", "hold", "(II)I"⟩ : MethodName) : Cond) := by decide +kernel
theorem w_1452 : lw_tbl[1452]? = some (.instanceMethod (⟨"GraphNamesModel", "hold", "(II)I"⟩ : MethodName) : Cond) := by decide +kernel
theorem w_1453 : lw_tbl[1453]? = some (.code (⟨"GraphNamesModel", "hold", "(II)I"⟩) prog_12_method_21_code 3 (some .int) : Cond) := by decide +kernel
theorem w_1454 : lw_tbl[1454]? = some (.methodLink "GraphNamesModel" (212) (⟨"GraphNamesModel", "line", "()V"⟩ : MethodName) : Cond) := by decide +kernel
theorem w_1456 : lw_tbl[1456]? = some (.instanceMethod (⟨"GraphNamesModel", "line", "()V"⟩ : MethodName) : Cond) := by decide +kernel
theorem w_1457 : lw_tbl[1457]? = some (.code (⟨"GraphNamesModel", "line", "()V"⟩) prog_12_method_30_code 1 none : Cond) := by decide +kernel
theorem w_1458 : lw_tbl[1458]? = some (.methodLink "GraphNamesModel" (202) (⟨"GraphNamesModel", "paintLine", "()V"⟩ : MethodName) : Cond) := by decide +kernel
theorem w_1460 : lw_tbl[1460]? = some (.instanceMethod (⟨"GraphNamesModel", "paintLine", "()V"⟩ : MethodName) : Cond) := by decide +kernel
theorem w_1461 : lw_tbl[1461]? = some (.code (⟨"GraphNamesModel", "paintLine", "()V"⟩) prog_12_method_27_code 3 none : Cond) := by decide +kernel
theorem w_1462 : lw_tbl[1462]? = some (.methodLink "GraphNamesModel" (167) (⟨"GraphNamesModel", "readVertex", "()I"⟩ : MethodName) : Cond) := by decide +kernel
theorem w_1464 : lw_tbl[1464]? = some (.instanceMethod (⟨"GraphNamesModel", "readVertex", "()I"⟩ : MethodName) : Cond) := by decide +kernel
theorem w_1465 : lw_tbl[1465]? = some (.code (⟨"GraphNamesModel", "readVertex", "()I"⟩) prog_12_method_23_code 1 (some .int) : Cond) := by decide +kernel
theorem w_1466 : lw_tbl[1466]? = some (.methodLink "GraphNamesModel" (182) (⟨"GraphNamesModel", "has", "(II)Z"⟩ : MethodName) : Cond) := by decide +kernel
theorem w_1467 : lw_tbl[1467]? = some (.static (⟨"GraphNamesModel", "has", "(II)Z"⟩ : MethodName) : Cond) := by decide +kernel
theorem w_1468 : lw_tbl[1468]? = some (.code (⟨"GraphNamesModel", "has", "(II)Z"⟩) prog_12_method_4_code 2 (some .boolean) : Cond) := by decide +kernel
theorem w_1469 : lw_tbl[1469]? = some (.methodLink "GraphNamesModel" (205) (⟨"GraphNamesModel", "linkLine", "()V"⟩ : MethodName) : Cond) := by decide +kernel
theorem w_1471 : lw_tbl[1471]? = some (.instanceMethod (⟨"GraphNamesModel", "linkLine", "()V"⟩ : MethodName) : Cond) := by decide +kernel
theorem w_1472 : lw_tbl[1472]? = some (.code (⟨"GraphNamesModel", "linkLine", "()V"⟩) prog_12_method_28_code 4 none : Cond) := by decide +kernel
theorem w_1473 : lw_tbl[1473]? = some (.methodLink "GraphNamesModel" (188) (⟨"GraphNamesModel", "readLinked", "(I)I"⟩ : MethodName) : Cond) := by decide +kernel
theorem w_1475 : lw_tbl[1475]? = some (.instanceMethod (⟨"GraphNamesModel", "readLinked", "(I)I"⟩ : MethodName) : Cond) := by decide +kernel
theorem w_1476 : lw_tbl[1476]? = some (.code (⟨"GraphNamesModel", "readLinked", "(I)I"⟩) prog_12_method_26_code 3 (some .int) : Cond) := by decide +kernel
theorem w_1477 : lw_tbl[1477]? = some (.methodLink "GraphNamesModel" (171) (⟨"GraphNamesModel", "isRead", "(II)Z"⟩ : MethodName) : Cond) := by decide +kernel
theorem w_1479 : lw_tbl[1479]? = some (.instanceMethod (⟨"GraphNamesModel", "isRead", "(II)Z"⟩ : MethodName) : Cond) := by decide +kernel
theorem w_1480 : lw_tbl[1480]? = some (.code (⟨"GraphNamesModel", "isRead", "(II)Z"⟩) prog_12_method_25_code 3 (some .boolean) : Cond) := by decide +kernel
theorem w_1481 : lw_tbl[1481]? = some (.methodLink "GraphNamesModel" (175) (⟨"GraphNamesModel", "linksRead", "(III)V"⟩ : MethodName) : Cond) := by decide +kernel
theorem w_1483 : lw_tbl[1483]? = some (.instanceMethod (⟨"GraphNamesModel", "linksRead", "(III)V"⟩ : MethodName) : Cond) := by decide +kernel
theorem w_1484 : lw_tbl[1484]? = some (.code (⟨"GraphNamesModel", "linksRead", "(III)V"⟩) prog_12_method_24_code 4 none : Cond) := by decide +kernel
theorem w_1485 : lw_tbl[1485]? = some (.methodLink "GraphNamesModel" (191) (⟨"GraphNamesModel", "isDigit", "()Z"⟩ : MethodName) : Cond) := by decide +kernel
theorem w_1487 : lw_tbl[1487]? = some (.instanceMethod (⟨"GraphNamesModel", "isDigit", "()Z"⟩ : MethodName) : Cond) := by decide +kernel
theorem w_1488 : lw_tbl[1488]? = some (.code (⟨"GraphNamesModel", "isDigit", "()Z"⟩) prog_12_method_20_code 1 (some .boolean) : Cond) := by decide +kernel
theorem w_1489 : lw_tbl[1489]? = some (.methodLink "GraphNamesModel" (208) (⟨"GraphNamesModel", "pathLine", "(Z)V"⟩ : MethodName) : Cond) := by decide +kernel
theorem w_1491 : lw_tbl[1491]? = some (.instanceMethod (⟨"GraphNamesModel", "pathLine", "(Z)V"⟩ : MethodName) : Cond) := by decide +kernel
theorem w_1492 : lw_tbl[1492]? = some (.code (⟨"GraphNamesModel", "pathLine", "(Z)V"⟩) prog_12_method_29_code 4 none : Cond) := by decide +kernel
theorem w_1493 : lw_tbl[1493]? = some (.methodLink "GraphNamesModel" (228) (⟨"GraphNamesModel", "keeps", "()V"⟩ : MethodName) : Cond) := by decide +kernel
theorem w_1495 : lw_tbl[1495]? = some (.instanceMethod (⟨"GraphNamesModel", "keeps", "()V"⟩ : MethodName) : Cond) := by decide +kernel
theorem w_1496 : lw_tbl[1496]? = some (.code (⟨"GraphNamesModel", "keeps", "()V"⟩) prog_12_method_115_code 2 none : Cond) := by decide +kernel
theorem w_1497 : lw_tbl[1497]? = some (.methodLink "GraphNamesLaw" (40) (⟨"GraphNamesModel", "graph", "(II)I"⟩ : MethodName) : Cond) := by decide +kernel
theorem w_1498 : lw_tbl[1498]? = some (.instanceMethod (⟨"GraphNamesModel", "graph", "(II)I"⟩ : MethodName) : Cond) := by decide +kernel
theorem w_1499 : lw_tbl[1499]? = some (.selects "GraphNamesModel" (⟨"GraphNamesModel", "graph", "(II)I"⟩ : MethodName) (⟨"GraphNamesModel", "graph", "(II)I"⟩ : MethodName) : Cond) := by decide +kernel
theorem w_1500 : lw_tbl[1500]? = some (.code (⟨"GraphNamesModel", "graph", "(II)I"⟩) prog_12_method_42_code 6 (some .int) : Cond) := by decide +kernel
theorem w_1501 : lw_tbl[1501]? = some (.methodLink "GraphNamesModel" (231) (⟨"GraphNamesModel", "manyOf", "(I)I"⟩ : MethodName) : Cond) := by decide +kernel
theorem w_1503 : lw_tbl[1503]? = some (.instanceMethod (⟨"GraphNamesModel", "manyOf", "(I)I"⟩ : MethodName) : Cond) := by decide +kernel
theorem w_1504 : lw_tbl[1504]? = some (.code (⟨"GraphNamesModel", "manyOf", "(I)I"⟩) prog_12_method_34_code 2 (some .int) : Cond) := by decide +kernel
theorem w_1505 : lw_tbl[1505]? = some (.methodLink "GraphNamesModel" (247) (⟨"GraphNamesModel", "linksOf", "(I)I"⟩ : MethodName) : Cond) := by decide +kernel
theorem w_1507 : lw_tbl[1507]? = some (.instanceMethod (⟨"GraphNamesModel", "linksOf", "(I)I"⟩ : MethodName) : Cond) := by decide +kernel
theorem w_1508 : lw_tbl[1508]? = some (.code (⟨"GraphNamesModel", "linksOf", "(I)I"⟩) prog_12_method_40_code 4 (some .int) : Cond) := by decide +kernel
theorem w_1509 : lw_tbl[1509]? = some (.methodLink "GraphNamesModel" (238) (⟨"GraphNamesModel", "rowOf", "(II)I"⟩ : MethodName) : Cond) := by decide +kernel
theorem w_1511 : lw_tbl[1511]? = some (.instanceMethod (⟨"GraphNamesModel", "rowOf", "(II)I"⟩ : MethodName) : Cond) := by decide +kernel
theorem w_1512 : lw_tbl[1512]? = some (.code (⟨"GraphNamesModel", "rowOf", "(II)I"⟩) prog_12_method_39_code 5 (some .int) : Cond) := by decide +kernel
theorem w_1513 : lw_tbl[1513]? = some (.methodLink "GraphNamesModel" (234) (⟨"GraphNamesModel", "kindOf", "(III)I"⟩ : MethodName) : Cond) := by decide +kernel
theorem w_1515 : lw_tbl[1515]? = some (.instanceMethod (⟨"GraphNamesModel", "kindOf", "(III)I"⟩ : MethodName) : Cond) := by decide +kernel
theorem w_1516 : lw_tbl[1516]? = some (.code (⟨"GraphNamesModel", "kindOf", "(III)I"⟩) prog_12_method_38_code 4 (some .int) : Cond) := by decide +kernel
theorem w_1517 : lw_tbl[1517]? = some (.methodLink "GraphNamesModel" (241) (⟨"GraphNamesModel", "ones", "(I)I"⟩ : MethodName) : Cond) := by decide +kernel
theorem w_1518 : lw_tbl[1518]? = some (.static (⟨"GraphNamesModel", "ones", "(I)I"⟩ : MethodName) : Cond) := by decide +kernel
theorem w_1519 : lw_tbl[1519]? = some (.code (⟨"GraphNamesModel", "ones", "(I)I"⟩) prog_12_method_5_code 3 (some .int) : Cond) := by decide +kernel
theorem w_1520 : lw_tbl[1520]? = some (.methodLink "GraphNamesModel" (250) (⟨"GraphNamesModel", "coloursOf", "(I)I"⟩ : MethodName) : Cond) := by decide +kernel
theorem w_1522 : lw_tbl[1522]? = some (.instanceMethod (⟨"GraphNamesModel", "coloursOf", "(I)I"⟩ : MethodName) : Cond) := by decide +kernel
theorem w_1523 : lw_tbl[1523]? = some (.code (⟨"GraphNamesModel", "coloursOf", "(I)I"⟩) prog_12_method_41_code 5 (some .int) : Cond) := by decide +kernel
theorem w_1524 : lw_tbl[1524]? = some (.methodLink "GraphNamesModel" (244) (⟨"GraphNamesModel", "colourOf", "(II)I"⟩ : MethodName) : Cond) := by decide +kernel
theorem w_1526 : lw_tbl[1526]? = some (.instanceMethod (⟨"GraphNamesModel", "colourOf", "(II)I"⟩ : MethodName) : Cond) := by decide +kernel
theorem w_1527 : lw_tbl[1527]? = some (.code (⟨"GraphNamesModel", "colourOf", "(II)I"⟩) prog_12_method_37_code 3 (some .int) : Cond) := by decide +kernel
theorem w_1528 : lw_tbl[1528]? = some (.methodLink "GraphNamesLaw" (44) (⟨"GraphNamesModel", "colour", "(II)I"⟩ : MethodName) : Cond) := by decide +kernel
theorem w_1529 : lw_tbl[1529]? = some (.instanceMethod (⟨"GraphNamesModel", "colour", "(II)I"⟩ : MethodName) : Cond) := by decide +kernel
theorem w_1530 : lw_tbl[1530]? = some (.selects "GraphNamesModel" (⟨"GraphNamesModel", "colour", "(II)I"⟩ : MethodName) (⟨"GraphNamesModel", "colour", "(II)I"⟩ : MethodName) : Cond) := by decide +kernel
theorem w_1531 : lw_tbl[1531]? = some (.code (⟨"GraphNamesModel", "colour", "(II)I"⟩) prog_12_method_43_code 3 (some .int) : Cond) := by decide +kernel
theorem w_1532 : lw_tbl[1532]? = some (.methodLink "GraphNamesModel" (253) (⟨"GraphNamesModel", "isVertex", "(II)Z"⟩ : MethodName) : Cond) := by decide +kernel
theorem w_1534 : lw_tbl[1534]? = some (.instanceMethod (⟨"GraphNamesModel", "isVertex", "(II)Z"⟩ : MethodName) : Cond) := by decide +kernel
theorem w_1535 : lw_tbl[1535]? = some (.code (⟨"GraphNamesModel", "isVertex", "(II)Z"⟩) prog_12_method_35_code 3 (some .boolean) : Cond) := by decide +kernel
theorem w_1536 : lw_tbl[1536]? = some (.methodLink "GraphNamesLaw" (49) (⟨"GraphNamesModel", "kind", "(III)I"⟩ : MethodName) : Cond) := by decide +kernel
theorem w_1537 : lw_tbl[1537]? = some (.instanceMethod (⟨"GraphNamesModel", "kind", "(III)I"⟩ : MethodName) : Cond) := by decide +kernel
theorem w_1538 : lw_tbl[1538]? = some (.selects "GraphNamesModel" (⟨"GraphNamesModel", "kind", "(III)I"⟩ : MethodName) (⟨"GraphNamesModel", "kind", "(III)I"⟩ : MethodName) : Cond) := by decide +kernel
theorem w_1539 : lw_tbl[1539]? = some (.code (⟨"GraphNamesModel", "kind", "(III)I"⟩) prog_12_method_44_code 4 (some .int) : Cond) := by decide +kernel
theorem w_1540 : lw_tbl[1540]? = some (.methodLink "GraphNamesLaw" (53) (⟨"GraphNamesModel", "degree", "(III)I"⟩ : MethodName) : Cond) := by decide +kernel
theorem w_1541 : lw_tbl[1541]? = some (.instanceMethod (⟨"GraphNamesModel", "degree", "(III)I"⟩ : MethodName) : Cond) := by decide +kernel
theorem w_1542 : lw_tbl[1542]? = some (.selects "GraphNamesModel" (⟨"GraphNamesModel", "degree", "(III)I"⟩ : MethodName) (⟨"GraphNamesModel", "degree", "(III)I"⟩ : MethodName) : Cond) := by decide +kernel
theorem w_1543 : lw_tbl[1543]? = some (.code (⟨"GraphNamesModel", "degree", "(III)I"⟩) prog_12_method_45_code 7 (some .int) : Cond) := by decide +kernel
theorem w_1544 : lw_tbl[1544]? = some (.methodLink "GraphNamesLaw" (186) (⟨"GraphNamesModel", "row", "(II)I"⟩ : MethodName) : Cond) := by decide +kernel
theorem w_1545 : lw_tbl[1545]? = some (.instanceMethod (⟨"GraphNamesModel", "row", "(II)I"⟩ : MethodName) : Cond) := by decide +kernel
theorem w_1546 : lw_tbl[1546]? = some (.selects "GraphNamesModel" (⟨"GraphNamesModel", "row", "(II)I"⟩ : MethodName) (⟨"GraphNamesModel", "row", "(II)I"⟩ : MethodName) : Cond) := by decide +kernel
theorem w_1547 : lw_tbl[1547]? = some (.code (⟨"GraphNamesModel", "row", "(II)I"⟩) prog_12_method_46_code 3 (some .int) : Cond) := by decide +kernel
theorem w_1548 : lw_tbl[1548]? = some (.methodLink "GraphNamesLaw" (57) (⟨"GraphNamesModel", "start", "(II)I"⟩ : MethodName) : Cond) := by decide +kernel
theorem w_1549 : lw_tbl[1549]? = some (.instanceMethod (⟨"GraphNamesModel", "start", "(II)I"⟩ : MethodName) : Cond) := by decide +kernel
theorem w_1550 : lw_tbl[1550]? = some (.selects "GraphNamesModel" (⟨"GraphNamesModel", "start", "(II)I"⟩ : MethodName) (⟨"GraphNamesModel", "start", "(II)I"⟩ : MethodName) : Cond) := by decide +kernel
theorem w_1551 : lw_tbl[1551]? = some (.code (⟨"GraphNamesModel", "start", "(II)I"⟩) prog_12_method_62_code 5 (some .int) : Cond) := by decide +kernel
theorem w_1552 : lw_tbl[1552]? = some (.methodLink "GraphNamesModel" (259) (⟨"GraphNamesModel", "lays", "(I)V"⟩ : MethodName) : Cond) := by decide +kernel
theorem w_1554 : lw_tbl[1554]? = some (.instanceMethod (⟨"GraphNamesModel", "lays", "(I)V"⟩ : MethodName) : Cond) := by decide +kernel
theorem w_1555 : lw_tbl[1555]? = some (.code (⟨"GraphNamesModel", "lays", "(I)V"⟩) prog_12_method_47_code 4 none : Cond) := by decide +kernel
theorem w_1556 : lw_tbl[1556]? = some (.methodLink "GraphNamesModel" (281) (⟨"GraphNamesModel", "laysColours", "()V"⟩ : MethodName) : Cond) := by decide +kernel
theorem w_1558 : lw_tbl[1558]? = some (.instanceMethod (⟨"GraphNamesModel", "laysColours", "()V"⟩ : MethodName) : Cond) := by decide +kernel
theorem w_1559 : lw_tbl[1559]? = some (.code (⟨"GraphNamesModel", "laysColours", "()V"⟩) prog_12_method_55_code 4 none : Cond) := by decide +kernel
theorem w_1560 : lw_tbl[1560]? = some (.methodLink "GraphNamesModel" (284) (⟨"GraphNamesModel", "refines", "()I"⟩ : MethodName) : Cond) := by decide +kernel
theorem w_1562 : lw_tbl[1562]? = some (.instanceMethod (⟨"GraphNamesModel", "refines", "()I"⟩ : MethodName) : Cond) := by decide +kernel
theorem w_1563 : lw_tbl[1563]? = some (.code (⟨"GraphNamesModel", "refines", "()I"⟩) prog_12_method_54_code 2 (some .int) : Cond) := by decide +kernel
theorem w_1564 : lw_tbl[1564]? = some (.methodLink "GraphNamesModel" (275) (⟨"GraphNamesModel", "goesRound", "()Z"⟩ : MethodName) : Cond) := by decide +kernel
theorem w_1566 : lw_tbl[1566]? = some (.instanceMethod (⟨"GraphNamesModel", "goesRound", "()Z"⟩ : MethodName) : Cond) := by decide +kernel
theorem w_1567 : lw_tbl[1567]? = some (.code (⟨"GraphNamesModel", "goesRound", "()Z"⟩) prog_12_method_53_code 4 (some .boolean) : Cond) := by decide +kernel
theorem w_1568 : lw_tbl[1568]? = some (.methodLink "GraphNamesModel" (266) (⟨"GraphNamesModel", "laysSigns", "()V"⟩ : MethodName) : Cond) := by decide +kernel
theorem w_1570 : lw_tbl[1570]? = some (.instanceMethod (⟨"GraphNamesModel", "laysSigns", "()V"⟩ : MethodName) : Cond) := by decide +kernel
theorem w_1571 : lw_tbl[1571]? = some (.code (⟨"GraphNamesModel", "laysSigns", "()V"⟩) prog_12_method_50_code 4 none : Cond) := by decide +kernel
theorem w_1572 : lw_tbl[1572]? = some (.methodLink "GraphNamesModel" (269) (⟨"GraphNamesModel", "rankOf", "(I)I"⟩ : MethodName) : Cond) := by decide +kernel
theorem w_1574 : lw_tbl[1574]? = some (.instanceMethod (⟨"GraphNamesModel", "rankOf", "(I)I"⟩ : MethodName) : Cond) := by decide +kernel
theorem w_1575 : lw_tbl[1575]? = some (.code (⟨"GraphNamesModel", "rankOf", "(I)I"⟩) prog_12_method_52_code 6 (some .int) : Cond) := by decide +kernel
theorem w_1576 : lw_tbl[1576]? = some (.methodLink "GraphNamesModel" (262) (⟨"GraphNamesModel", "compares", "([II[III)I"⟩ : MethodName) : Cond) := by decide +kernel
theorem w_1577 : lw_tbl[1577]? = some (.static (⟨"GraphNamesModel", "compares", "([II[III)I"⟩ : MethodName) : Cond) := by decide +kernel
theorem w_1578 : lw_tbl[1578]? = some (.code (⟨"GraphNamesModel", "compares", "([II[III)I"⟩) prog_12_method_51_code 6 (some .int) : Cond) := by decide +kernel
theorem w_1579 : lw_tbl[1579]? = some (.methodLink "GraphNamesModel" (287) (⟨"GraphNamesModel", "targetCell", "()I"⟩ : MethodName) : Cond) := by decide +kernel
theorem w_1581 : lw_tbl[1581]? = some (.instanceMethod (⟨"GraphNamesModel", "targetCell", "()I"⟩ : MethodName) : Cond) := by decide +kernel
theorem w_1582 : lw_tbl[1582]? = some (.code (⟨"GraphNamesModel", "targetCell", "()I"⟩) prog_12_method_57_code 3 (some .int) : Cond) := by decide +kernel
theorem w_1583 : lw_tbl[1583]? = some (.methodLink "GraphNamesModel" (278) (⟨"GraphNamesModel", "sizeOf", "(I)I"⟩ : MethodName) : Cond) := by decide +kernel
theorem w_1585 : lw_tbl[1585]? = some (.instanceMethod (⟨"GraphNamesModel", "sizeOf", "(I)I"⟩ : MethodName) : Cond) := by decide +kernel
theorem w_1586 : lw_tbl[1586]? = some (.code (⟨"GraphNamesModel", "sizeOf", "(I)I"⟩) prog_12_method_56_code 4 (some .int) : Cond) := by decide +kernel
theorem w_1587 : lw_tbl[1587]? = some (.methodLink "GraphNamesModel" (290) (⟨"GraphNamesModel", "setOf", "(I)I"⟩ : MethodName) : Cond) := by decide +kernel
theorem w_1589 : lw_tbl[1589]? = some (.instanceMethod (⟨"GraphNamesModel", "setOf", "(I)I"⟩ : MethodName) : Cond) := by decide +kernel
theorem w_1590 : lw_tbl[1590]? = some (.code (⟨"GraphNamesModel", "setOf", "(I)I"⟩) prog_12_method_58_code 4 (some .int) : Cond) := by decide +kernel
theorem w_1591 : lw_tbl[1591]? = some (.methodLink "GraphNamesLaw" (61) (⟨"GraphNamesModel", "cell", "(II)I"⟩ : MethodName) : Cond) := by decide +kernel
theorem w_1592 : lw_tbl[1592]? = some (.instanceMethod (⟨"GraphNamesModel", "cell", "(II)I"⟩ : MethodName) : Cond) := by decide +kernel
theorem w_1593 : lw_tbl[1593]? = some (.selects "GraphNamesModel" (⟨"GraphNamesModel", "cell", "(II)I"⟩ : MethodName) (⟨"GraphNamesModel", "cell", "(II)I"⟩ : MethodName) : Cond) := by decide +kernel
theorem w_1594 : lw_tbl[1594]? = some (.code (⟨"GraphNamesModel", "cell", "(II)I"⟩) prog_12_method_63_code 3 (some .int) : Cond) := by decide +kernel
theorem w_1595 : lw_tbl[1595]? = some (.methodLink "GraphNamesModel" (293) (⟨"GraphNamesModel", "starts", "()I"⟩ : MethodName) : Cond) := by decide +kernel
theorem w_1597 : lw_tbl[1597]? = some (.instanceMethod (⟨"GraphNamesModel", "starts", "()I"⟩ : MethodName) : Cond) := by decide +kernel
theorem w_1598 : lw_tbl[1598]? = some (.code (⟨"GraphNamesModel", "starts", "()I"⟩) prog_12_method_61_code 1 (some .int) : Cond) := by decide +kernel
theorem w_1599 : lw_tbl[1599]? = some (.methodLink "GraphNamesLaw" (65) (⟨"GraphNamesModel", "apart", "(III)I"⟩ : MethodName) : Cond) := by decide +kernel
theorem w_1600 : lw_tbl[1600]? = some (.instanceMethod (⟨"GraphNamesModel", "apart", "(III)I"⟩ : MethodName) : Cond) := by decide +kernel
theorem w_1601 : lw_tbl[1601]? = some (.selects "GraphNamesModel" (⟨"GraphNamesModel", "apart", "(III)I"⟩ : MethodName) (⟨"GraphNamesModel", "apart", "(III)I"⟩ : MethodName) : Cond) := by decide +kernel
theorem w_1602 : lw_tbl[1602]? = some (.code (⟨"GraphNamesModel", "apart", "(III)I"⟩) prog_12_method_64_code 6 (some .int) : Cond) := by decide +kernel
theorem w_1603 : lw_tbl[1603]? = some (.methodLink "GraphNamesModel" (296) (⟨"GraphNamesModel", "setsApart", "(I)V"⟩ : MethodName) : Cond) := by decide +kernel
theorem w_1605 : lw_tbl[1605]? = some (.instanceMethod (⟨"GraphNamesModel", "setsApart", "(I)V"⟩ : MethodName) : Cond) := by decide +kernel
theorem w_1606 : lw_tbl[1606]? = some (.code (⟨"GraphNamesModel", "setsApart", "(I)V"⟩) prog_12_method_59_code 4 none : Cond) := by decide +kernel
theorem w_1607 : lw_tbl[1607]? = some (.methodLink "GraphNamesModel" (299) (⟨"GraphNamesModel", "markOf", "(I)I"⟩ : MethodName) : Cond) := by decide +kernel
theorem w_1609 : lw_tbl[1609]? = some (.instanceMethod (⟨"GraphNamesModel", "markOf", "(I)I"⟩ : MethodName) : Cond) := by decide +kernel
theorem w_1610 : lw_tbl[1610]? = some (.code (⟨"GraphNamesModel", "markOf", "(I)I"⟩) prog_12_method_60_code 4 (some .int) : Cond) := by decide +kernel
theorem w_1611 : lw_tbl[1611]? = some (.methodLink "GraphNamesLaw" (130) (⟨"GraphNamesModel", "base", "(II)I"⟩ : MethodName) : Cond) := by decide +kernel
theorem w_1612 : lw_tbl[1612]? = some (.instanceMethod (⟨"GraphNamesModel", "base", "(II)I"⟩ : MethodName) : Cond) := by decide +kernel
theorem w_1613 : lw_tbl[1613]? = some (.selects "GraphNamesModel" (⟨"GraphNamesModel", "base", "(II)I"⟩ : MethodName) (⟨"GraphNamesModel", "base", "(II)I"⟩ : MethodName) : Cond) := by decide +kernel
theorem w_1614 : lw_tbl[1614]? = some (.code (⟨"GraphNamesModel", "base", "(II)I"⟩) prog_12_method_65_code 3 (some .int) : Cond) := by decide +kernel
theorem w_1615 : lw_tbl[1615]? = some (.methodLink "GraphNamesModel" (302) (⟨"GraphNamesModel", "isSet", "(II)Z"⟩ : MethodName) : Cond) := by decide +kernel
theorem w_1617 : lw_tbl[1617]? = some (.instanceMethod (⟨"GraphNamesModel", "isSet", "(II)Z"⟩ : MethodName) : Cond) := by decide +kernel
theorem w_1618 : lw_tbl[1618]? = some (.code (⟨"GraphNamesModel", "isSet", "(II)Z"⟩) prog_12_method_36_code 3 (some .boolean) : Cond) := by decide +kernel
theorem w_1619 : lw_tbl[1619]? = some (.methodLink "GraphNamesModel" (305) (⟨"GraphNamesModel", "cellsBy", "(I)I"⟩ : MethodName) : Cond) := by decide +kernel
theorem w_1621 : lw_tbl[1621]? = some (.instanceMethod (⟨"GraphNamesModel", "cellsBy", "(I)I"⟩ : MethodName) : Cond) := by decide +kernel
theorem w_1622 : lw_tbl[1622]? = some (.code (⟨"GraphNamesModel", "cellsBy", "(I)I"⟩) prog_12_method_66_code 3 (some .int) : Cond) := by decide +kernel
theorem w_1623 : lw_tbl[1623]? = some (.methodLink "GraphNamesLaw" (134) (⟨"GraphNamesModel", "fewest", "(I)I"⟩ : MethodName) : Cond) := by decide +kernel
theorem w_1624 : lw_tbl[1624]? = some (.instanceMethod (⟨"GraphNamesModel", "fewest", "(I)I"⟩ : MethodName) : Cond) := by decide +kernel
theorem w_1625 : lw_tbl[1625]? = some (.selects "GraphNamesModel" (⟨"GraphNamesModel", "fewest", "(I)I"⟩ : MethodName) (⟨"GraphNamesModel", "fewest", "(I)I"⟩ : MethodName) : Cond) := by decide +kernel
theorem w_1626 : lw_tbl[1626]? = some (.code (⟨"GraphNamesModel", "fewest", "(I)I"⟩) prog_12_method_67_code 4 (some .int) : Cond) := by decide +kernel
theorem w_1627 : lw_tbl[1627]? = some (.methodLink "GraphNamesLaw" (69) (⟨"GraphNamesModel", "tree", "(II)I"⟩ : MethodName) : Cond) := by decide +kernel
theorem w_1628 : lw_tbl[1628]? = some (.instanceMethod (⟨"GraphNamesModel", "tree", "(II)I"⟩ : MethodName) : Cond) := by decide +kernel
theorem w_1629 : lw_tbl[1629]? = some (.selects "GraphNamesModel" (⟨"GraphNamesModel", "tree", "(II)I"⟩ : MethodName) (⟨"GraphNamesModel", "tree", "(II)I"⟩ : MethodName) : Cond) := by decide +kernel
theorem w_1630 : lw_tbl[1630]? = some (.code (⟨"GraphNamesModel", "tree", "(II)I"⟩) prog_12_method_77_code 3 (some .int) : Cond) := by decide +kernel
theorem w_1631 : lw_tbl[1631]? = some (.methodLink "GraphNamesModel" (348) (⟨"GraphNamesModel", "walksAll", "()V"⟩ : MethodName) : Cond) := by decide +kernel
theorem w_1633 : lw_tbl[1633]? = some (.instanceMethod (⟨"GraphNamesModel", "walksAll", "()V"⟩ : MethodName) : Cond) := by decide +kernel
theorem w_1634 : lw_tbl[1634]? = some (.code (⟨"GraphNamesModel", "walksAll", "()V"⟩) prog_12_method_76_code 1 none : Cond) := by decide +kernel
theorem w_1635 : lw_tbl[1635]? = some (.methodLink "GraphNamesModel" (341) (⟨"GraphNamesModel", "walks", "(I)V"⟩ : MethodName) : Cond) := by decide +kernel
theorem w_1637 : lw_tbl[1637]? = some (.instanceMethod (⟨"GraphNamesModel", "walks", "(I)V"⟩ : MethodName) : Cond) := by decide +kernel
theorem w_1638 : lw_tbl[1638]? = some (.code (⟨"GraphNamesModel", "walks", "(I)V"⟩) prog_12_method_75_code 6 none : Cond) := by decide +kernel
theorem w_1639 : lw_tbl[1639]? = some (.methodLink "GraphNamesModel" (326) (⟨"GraphNamesModel", "laysCode", "()V"⟩ : MethodName) : Cond) := by decide +kernel
theorem w_1641 : lw_tbl[1641]? = some (.instanceMethod (⟨"GraphNamesModel", "laysCode", "()V"⟩ : MethodName) : Cond) := by decide +kernel
theorem w_1642 : lw_tbl[1642]? = some (.code (⟨"GraphNamesModel", "laysCode", "()V"⟩) prog_12_method_70_code 4 none : Cond) := by decide +kernel
theorem w_1643 : lw_tbl[1643]? = some (.methodLink "GraphNamesModel" (308) (⟨"GraphNamesModel", "vertexIn", "(I)I"⟩ : MethodName) : Cond) := by decide +kernel
theorem w_1645 : lw_tbl[1645]? = some (.instanceMethod (⟨"GraphNamesModel", "vertexIn", "(I)I"⟩ : MethodName) : Cond) := by decide +kernel
theorem w_1646 : lw_tbl[1646]? = some (.code (⟨"GraphNamesModel", "vertexIn", "(I)I"⟩) prog_12_method_69_code 3 (some .int) : Cond) := by decide +kernel
theorem w_1647 : lw_tbl[1647]? = some (.methodLink "GraphNamesModel" (329) (⟨"GraphNamesModel", "comparesBest", "(I)I"⟩ : MethodName) : Cond) := by decide +kernel
theorem w_1649 : lw_tbl[1649]? = some (.instanceMethod (⟨"GraphNamesModel", "comparesBest", "(I)I"⟩ : MethodName) : Cond) := by decide +kernel
theorem w_1650 : lw_tbl[1650]? = some (.code (⟨"GraphNamesModel", "comparesBest", "(I)I"⟩) prog_12_method_71_code 4 (some .int) : Cond) := by decide +kernel
theorem w_1651 : lw_tbl[1651]? = some (.methodLink "GraphNamesModel" (314) (⟨"GraphNamesModel", "codeLong", "()I"⟩ : MethodName) : Cond) := by decide +kernel
theorem w_1653 : lw_tbl[1653]? = some (.instanceMethod (⟨"GraphNamesModel", "codeLong", "()I"⟩ : MethodName) : Cond) := by decide +kernel
theorem w_1654 : lw_tbl[1654]? = some (.code (⟨"GraphNamesModel", "codeLong", "()I"⟩) prog_12_method_68_code 1 (some .int) : Cond) := by decide +kernel
theorem w_1655 : lw_tbl[1655]? = some (.methodLink "GraphNamesModel" (332) (⟨"GraphNamesModel", "isBest", "(I)V"⟩ : MethodName) : Cond) := by decide +kernel
theorem w_1657 : lw_tbl[1657]? = some (.instanceMethod (⟨"GraphNamesModel", "isBest", "(I)V"⟩ : MethodName) : Cond) := by decide +kernel
theorem w_1658 : lw_tbl[1658]? = some (.code (⟨"GraphNamesModel", "isBest", "(I)V"⟩) prog_12_method_72_code 3 none : Cond) := by decide +kernel
theorem w_1659 : lw_tbl[1659]? = some (.methodLink "GraphNamesModel" (338) (⟨"GraphNamesModel", "saves", "(I)V"⟩ : MethodName) : Cond) := by decide +kernel
theorem w_1661 : lw_tbl[1661]? = some (.instanceMethod (⟨"GraphNamesModel", "saves", "(I)V"⟩ : MethodName) : Cond) := by decide +kernel
theorem w_1662 : lw_tbl[1662]? = some (.code (⟨"GraphNamesModel", "saves", "(I)V"⟩) prog_12_method_73_code 3 none : Cond) := by decide +kernel
theorem w_1663 : lw_tbl[1663]? = some (.methodLink "GraphNamesModel" (344) (⟨"GraphNamesModel", "comesBack", "(II)V"⟩ : MethodName) : Cond) := by decide +kernel
theorem w_1665 : lw_tbl[1665]? = some (.instanceMethod (⟨"GraphNamesModel", "comesBack", "(II)V"⟩ : MethodName) : Cond) := by decide +kernel
theorem w_1666 : lw_tbl[1666]? = some (.code (⟨"GraphNamesModel", "comesBack", "(II)V"⟩) prog_12_method_74_code 4 none : Cond) := by decide +kernel
theorem w_1667 : lw_tbl[1667]? = some (.methodLink "GraphNamesLaw" (77) (⟨"GraphNamesModel", "name", "(II)I"⟩ : MethodName) : Cond) := by decide +kernel
theorem w_1668 : lw_tbl[1668]? = some (.instanceMethod (⟨"GraphNamesModel", "name", "(II)I"⟩ : MethodName) : Cond) := by decide +kernel
theorem w_1669 : lw_tbl[1669]? = some (.selects "GraphNamesModel" (⟨"GraphNamesModel", "name", "(II)I"⟩ : MethodName) (⟨"GraphNamesModel", "name", "(II)I"⟩ : MethodName) : Cond) := by decide +kernel
theorem w_1670 : lw_tbl[1670]? = some (.code (⟨"GraphNamesModel", "name", "(II)I"⟩) prog_12_method_78_code 3 (some .int) : Cond) := by decide +kernel
theorem w_1671 : lw_tbl[1671]? = some (.methodLink "GraphNamesLaw" (81) (⟨"GraphNamesModel", "place", "(II)I"⟩ : MethodName) : Cond) := by decide +kernel
theorem w_1672 : lw_tbl[1672]? = some (.instanceMethod (⟨"GraphNamesModel", "place", "(II)I"⟩ : MethodName) : Cond) := by decide +kernel
theorem w_1673 : lw_tbl[1673]? = some (.selects "GraphNamesModel" (⟨"GraphNamesModel", "place", "(II)I"⟩ : MethodName) (⟨"GraphNamesModel", "place", "(II)I"⟩ : MethodName) : Cond) := by decide +kernel
theorem w_1674 : lw_tbl[1674]? = some (.code (⟨"GraphNamesModel", "place", "(II)I"⟩) prog_12_method_79_code 3 (some .int) : Cond) := by decide +kernel
theorem w_1675 : lw_tbl[1675]? = some (.methodLink "GraphNamesLaw" (85) (⟨"GraphNamesModel", "less", "(II)I"⟩ : MethodName) : Cond) := by decide +kernel
theorem w_1676 : lw_tbl[1676]? = some (.instanceMethod (⟨"GraphNamesModel", "less", "(II)I"⟩ : MethodName) : Cond) := by decide +kernel
theorem w_1677 : lw_tbl[1677]? = some (.selects "GraphNamesModel" (⟨"GraphNamesModel", "less", "(II)I"⟩ : MethodName) (⟨"GraphNamesModel", "less", "(II)I"⟩ : MethodName) : Cond) := by decide +kernel
theorem w_1678 : lw_tbl[1678]? = some (.code (⟨"GraphNamesModel", "less", "(II)I"⟩) prog_12_method_81_code 4 (some .int) : Cond) := by decide +kernel
theorem w_1679 : lw_tbl[1679]? = some (.methodLink "GraphNamesModel" (351) (⟨"GraphNamesModel", "keepsName", "(I)V"⟩ : MethodName) : Cond) := by decide +kernel
theorem w_1681 : lw_tbl[1681]? = some (.instanceMethod (⟨"GraphNamesModel", "keepsName", "(I)V"⟩ : MethodName) : Cond) := by decide +kernel
theorem w_1682 : lw_tbl[1682]? = some (.code (⟨"GraphNamesModel", "keepsName", "(I)V"⟩) prog_12_method_80_code 3 none : Cond) := by decide +kernel
theorem w_1683 : lw_tbl[1683]? = some (.methodLink "GraphNamesLaw" (73) (⟨"GraphNamesModel", "search", "(II)I"⟩ : MethodName) : Cond) := by decide +kernel
theorem w_1684 : lw_tbl[1684]? = some (.instanceMethod (⟨"GraphNamesModel", "search", "(II)I"⟩ : MethodName) : Cond) := by decide +kernel
theorem w_1685 : lw_tbl[1685]? = some (.selects "GraphNamesModel" (⟨"GraphNamesModel", "search", "(II)I"⟩ : MethodName) (⟨"GraphNamesModel", "search", "(II)I"⟩ : MethodName) : Cond) := by decide +kernel
theorem w_1686 : lw_tbl[1686]? = some (.code (⟨"GraphNamesModel", "search", "(II)I"⟩) prog_12_method_93_code 3 (some .int) : Cond) := by decide +kernel
theorem w_1687 : lw_tbl[1687]? = some (.methodLink "GraphNamesModel" (400) (⟨"GraphNamesModel", "searchesAll", "()V"⟩ : MethodName) : Cond) := by decide +kernel
theorem w_1689 : lw_tbl[1689]? = some (.instanceMethod (⟨"GraphNamesModel", "searchesAll", "()V"⟩ : MethodName) : Cond) := by decide +kernel
theorem w_1690 : lw_tbl[1690]? = some (.code (⟨"GraphNamesModel", "searchesAll", "()V"⟩) prog_12_method_92_code 1 none : Cond) := by decide +kernel
theorem w_1691 : lw_tbl[1691]? = some (.methodLink "GraphNamesModel" (397) (⟨"GraphNamesModel", "searches", "(I)V"⟩ : MethodName) : Cond) := by decide +kernel
theorem w_1693 : lw_tbl[1693]? = some (.instanceMethod (⟨"GraphNamesModel", "searches", "(I)V"⟩ : MethodName) : Cond) := by decide +kernel
theorem w_1694 : lw_tbl[1694]? = some (.code (⟨"GraphNamesModel", "searches", "(I)V"⟩) prog_12_method_91_code 7 none : Cond) := by decide +kernel
theorem w_1695 : lw_tbl[1695]? = some (.methodLink "GraphNamesModel" (382) (⟨"GraphNamesModel", "comesToLeaf", "(I)V"⟩ : MethodName) : Cond) := by decide +kernel
theorem w_1697 : lw_tbl[1697]? = some (.instanceMethod (⟨"GraphNamesModel", "comesToLeaf", "(I)V"⟩ : MethodName) : Cond) := by decide +kernel
theorem w_1698 : lw_tbl[1698]? = some (.code (⟨"GraphNamesModel", "comesToLeaf", "(I)V"⟩) prog_12_method_86_code 3 none : Cond) := by decide +kernel
theorem w_1699 : lw_tbl[1699]? = some (.methodLink "GraphNamesModel" (360) (⟨"GraphNamesModel", "isFirst", "(I)V"⟩ : MethodName) : Cond) := by decide +kernel
theorem w_1701 : lw_tbl[1701]? = some (.instanceMethod (⟨"GraphNamesModel", "isFirst", "(I)V"⟩ : MethodName) : Cond) := by decide +kernel
theorem w_1702 : lw_tbl[1702]? = some (.code (⟨"GraphNamesModel", "isFirst", "(I)V"⟩) prog_12_method_83_code 3 none : Cond) := by decide +kernel
theorem w_1703 : lw_tbl[1703]? = some (.methodLink "GraphNamesModel" (366) (⟨"GraphNamesModel", "isLikeFirst", "(I)Z"⟩ : MethodName) : Cond) := by decide +kernel
theorem w_1705 : lw_tbl[1705]? = some (.instanceMethod (⟨"GraphNamesModel", "isLikeFirst", "(I)Z"⟩ : MethodName) : Cond) := by decide +kernel
theorem w_1706 : lw_tbl[1706]? = some (.code (⟨"GraphNamesModel", "isLikeFirst", "(I)Z"⟩) prog_12_method_82_code 2 (some .boolean) : Cond) := by decide +kernel
theorem w_1707 : lw_tbl[1707]? = some (.methodLink "GraphNamesModel" (369) (⟨"GraphNamesModel", "generates", "([I)V"⟩ : MethodName) : Cond) := by decide +kernel
theorem w_1709 : lw_tbl[1709]? = some (.instanceMethod (⟨"GraphNamesModel", "generates", "([I)V"⟩ : MethodName) : Cond) := by decide +kernel
theorem w_1710 : lw_tbl[1710]? = some (.code (⟨"GraphNamesModel", "generates", "([I)V"⟩) prog_12_method_84_code 4 none : Cond) := by decide +kernel
theorem w_1711 : lw_tbl[1711]? = some (.methodLink "GraphNamesModel" (385) (⟨"GraphNamesModel", "comesTo", "(III)Z"⟩ : MethodName) : Cond) := by decide +kernel
theorem w_1713 : lw_tbl[1713]? = some (.instanceMethod (⟨"GraphNamesModel", "comesTo", "(III)Z"⟩ : MethodName) : Cond) := by decide +kernel
theorem w_1714 : lw_tbl[1714]? = some (.code (⟨"GraphNamesModel", "comesTo", "(III)Z"⟩) prog_12_method_88_code 8 (some .boolean) : Cond) := by decide +kernel
theorem w_1715 : lw_tbl[1715]? = some (.methodLink "GraphNamesModel" (376) (⟨"GraphNamesModel", "leavesPath", "(II)Z"⟩ : MethodName) : Cond) := by decide +kernel
theorem w_1717 : lw_tbl[1717]? = some (.instanceMethod (⟨"GraphNamesModel", "leavesPath", "(II)Z"⟩ : MethodName) : Cond) := by decide +kernel
theorem w_1718 : lw_tbl[1718]? = some (.code (⟨"GraphNamesModel", "leavesPath", "(II)Z"⟩) prog_12_method_87_code 4 (some .boolean) : Cond) := by decide +kernel
theorem w_1719 : lw_tbl[1719]? = some (.methodLink "GraphNamesModel" (373) (⟨"GraphNamesModel", "sentBy", "(II)I"⟩ : MethodName) : Cond) := by decide +kernel
theorem w_1720 : lw_tbl[1720]? = some (.static (⟨"GraphNamesModel", "sentBy", "(II)I"⟩ : MethodName) : Cond) := by decide +kernel
theorem w_1721 : lw_tbl[1721]? = some (.code (⟨"GraphNamesModel", "sentBy", "(II)I"⟩) prog_12_method_85_code 2 (some .int) : Cond) := by decide +kernel
theorem w_1722 : lw_tbl[1722]? = some (.methodLink "GraphNamesModel" (379) (⟨"GraphNamesModel", "sentSet", "(II)I"⟩ : MethodName) : Cond) := by decide +kernel
theorem w_1724 : lw_tbl[1724]? = some (.instanceMethod (⟨"GraphNamesModel", "sentSet", "(II)I"⟩ : MethodName) : Cond) := by decide +kernel
theorem w_1725 : lw_tbl[1725]? = some (.code (⟨"GraphNamesModel", "sentSet", "(II)I"⟩) prog_12_method_89_code 5 (some .int) : Cond) := by decide +kernel
theorem w_1726 : lw_tbl[1726]? = some (.methodLink "GraphNamesModel" (391) (⟨"GraphNamesModel", "isCut", "(I)Z"⟩ : MethodName) : Cond) := by decide +kernel
theorem w_1728 : lw_tbl[1728]? = some (.instanceMethod (⟨"GraphNamesModel", "isCut", "(I)Z"⟩ : MethodName) : Cond) := by decide +kernel
theorem w_1729 : lw_tbl[1729]? = some (.code (⟨"GraphNamesModel", "isCut", "(I)Z"⟩) prog_12_method_90_code 2 (some .boolean) : Cond) := by decide +kernel
theorem w_1730 : lw_tbl[1730]? = some (.methodLink "GraphNamesLaw" (89) (⟨"GraphNamesModel", "generator", "(III)I"⟩ : MethodName) : Cond) := by decide +kernel
theorem w_1731 : lw_tbl[1731]? = some (.instanceMethod (⟨"GraphNamesModel", "generator", "(III)I"⟩ : MethodName) : Cond) := by decide +kernel
theorem w_1732 : lw_tbl[1732]? = some (.selects "GraphNamesModel" (⟨"GraphNamesModel", "generator", "(III)I"⟩ : MethodName) (⟨"GraphNamesModel", "generator", "(III)I"⟩ : MethodName) : Cond) := by decide +kernel
theorem w_1733 : lw_tbl[1733]? = some (.code (⟨"GraphNamesModel", "generator", "(III)I"⟩) prog_12_method_94_code 4 (some .int) : Cond) := by decide +kernel
theorem w_1734 : lw_tbl[1734]? = some (.methodLink "GraphNamesLaw" (93) (⟨"GraphNamesModel", "symmetries", "(II)I"⟩ : MethodName) : Cond) := by decide +kernel
theorem w_1735 : lw_tbl[1735]? = some (.instanceMethod (⟨"GraphNamesModel", "symmetries", "(II)I"⟩ : MethodName) : Cond) := by decide +kernel
theorem w_1736 : lw_tbl[1736]? = some (.selects "GraphNamesModel" (⟨"GraphNamesModel", "symmetries", "(II)I"⟩ : MethodName) (⟨"GraphNamesModel", "symmetries", "(II)I"⟩ : MethodName) : Cond) := by decide +kernel
theorem w_1737 : lw_tbl[1737]? = some (.code (⟨"GraphNamesModel", "symmetries", "(II)I"⟩) prog_12_method_100_code 6 (some .int) : Cond) := by decide +kernel
theorem w_1738 : lw_tbl[1738]? = some (.methodLink "GraphNamesModel" (427) (⟨"GraphNamesModel", "laysMaps", "(III)V"⟩ : MethodName) : Cond) := by decide +kernel
theorem w_1740 : lw_tbl[1740]? = some (.instanceMethod (⟨"GraphNamesModel", "laysMaps", "(III)V"⟩ : MethodName) : Cond) := by decide +kernel
theorem w_1741 : lw_tbl[1741]? = some (.code (⟨"GraphNamesModel", "laysMaps", "(III)V"⟩) prog_12_method_99_code 4 none : Cond) := by decide +kernel
theorem w_1742 : lw_tbl[1742]? = some (.methodLink "GraphNamesModel" (421) (⟨"GraphNamesModel", "laysOther", "()V"⟩ : MethodName) : Cond) := by decide +kernel
theorem w_1744 : lw_tbl[1744]? = some (.instanceMethod (⟨"GraphNamesModel", "laysOther", "()V"⟩ : MethodName) : Cond) := by decide +kernel
theorem w_1745 : lw_tbl[1745]? = some (.code (⟨"GraphNamesModel", "laysOther", "()V"⟩) prog_12_method_95_code 3 none : Cond) := by decide +kernel
theorem w_1746 : lw_tbl[1746]? = some (.methodLink "GraphNamesModel" (424) (⟨"GraphNamesModel", "mapsAll", "(I)V"⟩ : MethodName) : Cond) := by decide +kernel
theorem w_1748 : lw_tbl[1748]? = some (.instanceMethod (⟨"GraphNamesModel", "mapsAll", "(I)V"⟩ : MethodName) : Cond) := by decide +kernel
theorem w_1749 : lw_tbl[1749]? = some (.code (⟨"GraphNamesModel", "mapsAll", "(I)V"⟩) prog_12_method_98_code 3 none : Cond) := by decide +kernel
theorem w_1750 : lw_tbl[1750]? = some (.methodLink "GraphNamesModel" (418) (⟨"GraphNamesModel", "mapsFrom", "(I)V"⟩ : MethodName) : Cond) := by decide +kernel
theorem w_1752 : lw_tbl[1752]? = some (.instanceMethod (⟨"GraphNamesModel", "mapsFrom", "(I)V"⟩ : MethodName) : Cond) := by decide +kernel
theorem w_1753 : lw_tbl[1753]? = some (.code (⟨"GraphNamesModel", "mapsFrom", "(I)V"⟩) prog_12_method_97_code 4 none : Cond) := by decide +kernel
theorem w_1754 : lw_tbl[1754]? = some (.methodLink "GraphNamesModel" (415) (⟨"GraphNamesModel", "fits", "(II)Z"⟩ : MethodName) : Cond) := by decide +kernel
theorem w_1756 : lw_tbl[1756]? = some (.instanceMethod (⟨"GraphNamesModel", "fits", "(II)Z"⟩ : MethodName) : Cond) := by decide +kernel
theorem w_1757 : lw_tbl[1757]? = some (.code (⟨"GraphNamesModel", "fits", "(II)Z"⟩) prog_12_method_96_code 4 (some .boolean) : Cond) := by decide +kernel
theorem w_1758 : lw_tbl[1758]? = some (.methodLink "GraphNamesLaw" (97) (⟨"GraphNamesModel", "orbit", "(II)I"⟩ : MethodName) : Cond) := by decide +kernel
theorem w_1759 : lw_tbl[1759]? = some (.instanceMethod (⟨"GraphNamesModel", "orbit", "(II)I"⟩ : MethodName) : Cond) := by decide +kernel
theorem w_1760 : lw_tbl[1760]? = some (.selects "GraphNamesModel" (⟨"GraphNamesModel", "orbit", "(II)I"⟩ : MethodName) (⟨"GraphNamesModel", "orbit", "(II)I"⟩ : MethodName) : Cond) := by decide +kernel
theorem w_1761 : lw_tbl[1761]? = some (.code (⟨"GraphNamesModel", "orbit", "(II)I"⟩) prog_12_method_101_code 3 (some .int) : Cond) := by decide +kernel
theorem w_1762 : lw_tbl[1762]? = some (.methodLink "GraphNamesLaw" (101) (⟨"GraphNamesModel", "leave", "(II)I"⟩ : MethodName) : Cond) := by decide +kernel
theorem w_1763 : lw_tbl[1763]? = some (.instanceMethod (⟨"GraphNamesModel", "leave", "(II)I"⟩ : MethodName) : Cond) := by decide +kernel
theorem w_1764 : lw_tbl[1764]? = some (.selects "GraphNamesModel" (⟨"GraphNamesModel", "leave", "(II)I"⟩ : MethodName) (⟨"GraphNamesModel", "leave", "(II)I"⟩ : MethodName) : Cond) := by decide +kernel
theorem w_1765 : lw_tbl[1765]? = some (.code (⟨"GraphNamesModel", "leave", "(II)I"⟩) prog_12_method_102_code 3 (some .int) : Cond) := by decide +kernel
theorem w_1766 : lw_tbl[1766]? = some (.methodLink "GraphNamesLaw" (105) (⟨"GraphNamesModel", "maps", "(II)I"⟩ : MethodName) : Cond) := by decide +kernel
theorem w_1767 : lw_tbl[1767]? = some (.instanceMethod (⟨"GraphNamesModel", "maps", "(II)I"⟩ : MethodName) : Cond) := by decide +kernel
theorem w_1768 : lw_tbl[1768]? = some (.selects "GraphNamesModel" (⟨"GraphNamesModel", "maps", "(II)I"⟩ : MethodName) (⟨"GraphNamesModel", "maps", "(II)I"⟩ : MethodName) : Cond) := by decide +kernel
theorem w_1769 : lw_tbl[1769]? = some (.code (⟨"GraphNamesModel", "maps", "(II)I"⟩) prog_12_method_103_code 3 (some .int) : Cond) := by decide +kernel
theorem w_1770 : lw_tbl[1770]? = some (.methodLink "GraphNamesLaw" (109) (⟨"GraphNamesModel", "map", "(III)I"⟩ : MethodName) : Cond) := by decide +kernel
theorem w_1771 : lw_tbl[1771]? = some (.instanceMethod (⟨"GraphNamesModel", "map", "(III)I"⟩ : MethodName) : Cond) := by decide +kernel
theorem w_1772 : lw_tbl[1772]? = some (.selects "GraphNamesModel" (⟨"GraphNamesModel", "map", "(III)I"⟩ : MethodName) (⟨"GraphNamesModel", "map", "(III)I"⟩ : MethodName) : Cond) := by decide +kernel
theorem w_1773 : lw_tbl[1773]? = some (.code (⟨"GraphNamesModel", "map", "(III)I"⟩) prog_12_method_104_code 4 (some .int) : Cond) := by decide +kernel
theorem w_1774 : lw_tbl[1774]? = some (.methodLink "GraphNamesLaw" (113) (⟨"GraphNamesModel", "changes", "(II)I"⟩ : MethodName) : Cond) := by decide +kernel
theorem w_1775 : lw_tbl[1775]? = some (.instanceMethod (⟨"GraphNamesModel", "changes", "(II)I"⟩ : MethodName) : Cond) := by decide +kernel
theorem w_1776 : lw_tbl[1776]? = some (.selects "GraphNamesModel" (⟨"GraphNamesModel", "changes", "(II)I"⟩ : MethodName) (⟨"GraphNamesModel", "changes", "(II)I"⟩ : MethodName) : Cond) := by decide +kernel
theorem w_1777 : lw_tbl[1777]? = some (.code (⟨"GraphNamesModel", "changes", "(II)I"⟩) prog_12_method_106_code 3 (some .int) : Cond) := by decide +kernel
theorem w_1778 : lw_tbl[1778]? = some (.methodLink "GraphNamesModel" (433) (⟨"GraphNamesModel", "changesFrom", "(III)V"⟩ : MethodName) : Cond) := by decide +kernel
theorem w_1780 : lw_tbl[1780]? = some (.instanceMethod (⟨"GraphNamesModel", "changesFrom", "(III)V"⟩ : MethodName) : Cond) := by decide +kernel
theorem w_1781 : lw_tbl[1781]? = some (.code (⟨"GraphNamesModel", "changesFrom", "(III)V"⟩) prog_12_method_105_code 7 none : Cond) := by decide +kernel
theorem w_1782 : lw_tbl[1782]? = some (.methodLink "GraphNamesLaw" (117) (⟨"GraphNamesModel", "told", "(II)I"⟩ : MethodName) : Cond) := by decide +kernel
theorem w_1783 : lw_tbl[1783]? = some (.instanceMethod (⟨"GraphNamesModel", "told", "(II)I"⟩ : MethodName) : Cond) := by decide +kernel
theorem w_1784 : lw_tbl[1784]? = some (.selects "GraphNamesModel" (⟨"GraphNamesModel", "told", "(II)I"⟩ : MethodName) (⟨"GraphNamesModel", "told", "(II)I"⟩ : MethodName) : Cond) := by decide +kernel
theorem w_1785 : lw_tbl[1785]? = some (.code (⟨"GraphNamesModel", "told", "(II)I"⟩) prog_12_method_112_code 3 (some .int) : Cond) := by decide +kernel
theorem w_1786 : lw_tbl[1786]? = some (.methodLink "GraphNamesModel" (448) (⟨"GraphNamesModel", "toldBy", "()I"⟩ : MethodName) : Cond) := by decide +kernel
theorem w_1788 : lw_tbl[1788]? = some (.instanceMethod (⟨"GraphNamesModel", "toldBy", "()I"⟩ : MethodName) : Cond) := by decide +kernel
theorem w_1789 : lw_tbl[1789]? = some (.code (⟨"GraphNamesModel", "toldBy", "()I"⟩) prog_12_method_111_code 3 (some .int) : Cond) := by decide +kernel
theorem w_1790 : lw_tbl[1790]? = some (.methodLink "GraphNamesModel" (436) (⟨"GraphNamesModel", "areColoursAlike", "()Z"⟩ : MethodName) : Cond) := by decide +kernel
theorem w_1792 : lw_tbl[1792]? = some (.instanceMethod (⟨"GraphNamesModel", "areColoursAlike", "()Z"⟩ : MethodName) : Cond) := by decide +kernel
theorem w_1793 : lw_tbl[1793]? = some (.code (⟨"GraphNamesModel", "areColoursAlike", "()Z"⟩) prog_12_method_107_code 4 (some .boolean) : Cond) := by decide +kernel
theorem w_1794 : lw_tbl[1794]? = some (.methodLink "GraphNamesModel" (439) (⟨"GraphNamesModel", "laysOtherSigns", "()V"⟩ : MethodName) : Cond) := by decide +kernel
theorem w_1796 : lw_tbl[1796]? = some (.instanceMethod (⟨"GraphNamesModel", "laysOtherSigns", "()V"⟩ : MethodName) : Cond) := by decide +kernel
theorem w_1797 : lw_tbl[1797]? = some (.code (⟨"GraphNamesModel", "laysOtherSigns", "()V"⟩) prog_12_method_108_code 4 none : Cond) := by decide +kernel
theorem w_1798 : lw_tbl[1798]? = some (.methodLink "GraphNamesModel" (442) (⟨"GraphNamesModel", "areSignsAlike", "()Z"⟩ : MethodName) : Cond) := by decide +kernel
theorem w_1800 : lw_tbl[1800]? = some (.instanceMethod (⟨"GraphNamesModel", "areSignsAlike", "()Z"⟩ : MethodName) : Cond) := by decide +kernel
theorem w_1801 : lw_tbl[1801]? = some (.code (⟨"GraphNamesModel", "areSignsAlike", "()Z"⟩) prog_12_method_109_code 4 (some .boolean) : Cond) := by decide +kernel
theorem w_1802 : lw_tbl[1802]? = some (.methodLink "GraphNamesModel" (445) (⟨"GraphNamesModel", "laysOtherCells", "()V"⟩ : MethodName) : Cond) := by decide +kernel
theorem w_1804 : lw_tbl[1804]? = some (.instanceMethod (⟨"GraphNamesModel", "laysOtherCells", "()V"⟩ : MethodName) : Cond) := by decide +kernel
theorem w_1805 : lw_tbl[1805]? = some (.code (⟨"GraphNamesModel", "laysOtherCells", "()V"⟩) prog_12_method_110_code 3 none : Cond) := by decide +kernel
theorem w_1806 : lw_tbl[1806]? = some (.methodLink "GraphNamesLaw" (121) (⟨"GraphNamesModel", "cards", "(II)I"⟩ : MethodName) : Cond) := by decide +kernel
theorem w_1807 : lw_tbl[1807]? = some (.instanceMethod (⟨"GraphNamesModel", "cards", "(II)I"⟩ : MethodName) : Cond) := by decide +kernel
theorem w_1808 : lw_tbl[1808]? = some (.selects "GraphNamesModel" (⟨"GraphNamesModel", "cards", "(II)I"⟩ : MethodName) (⟨"GraphNamesModel", "cards", "(II)I"⟩ : MethodName) : Cond) := by decide +kernel
theorem w_1809 : lw_tbl[1809]? = some (.code (⟨"GraphNamesModel", "cards", "(II)I"⟩) prog_12_method_113_code 9 (some .int) : Cond) := by decide +kernel
theorem w_1810 : lw_tbl[1810]? = some (.methodLink "GraphNamesModel" (451) (⟨"GraphNamesModel", "laysCard", "(II)V"⟩ : MethodName) : Cond) := by decide +kernel
theorem w_1812 : lw_tbl[1812]? = some (.instanceMethod (⟨"GraphNamesModel", "laysCard", "(II)V"⟩ : MethodName) : Cond) := by decide +kernel
theorem w_1813 : lw_tbl[1813]? = some (.code (⟨"GraphNamesModel", "laysCard", "(II)V"⟩) prog_12_method_48_code 6 none : Cond) := by decide +kernel
theorem w_1814 : lw_tbl[1814]? = some (.methodLink "GraphNamesLaw" (126) (⟨"GraphNamesModel", "turned", "(I)I"⟩ : MethodName) : Cond) := by decide +kernel
theorem w_1815 : lw_tbl[1815]? = some (.instanceMethod (⟨"GraphNamesModel", "turned", "(I)I"⟩ : MethodName) : Cond) := by decide +kernel
theorem w_1816 : lw_tbl[1816]? = some (.selects "GraphNamesModel" (⟨"GraphNamesModel", "turned", "(I)I"⟩ : MethodName) (⟨"GraphNamesModel", "turned", "(I)I"⟩ : MethodName) : Cond) := by decide +kernel
theorem w_1817 : lw_tbl[1817]? = some (.code (⟨"GraphNamesModel", "turned", "(I)I"⟩) prog_12_method_114_code 2 (some .int) : Cond) := by decide +kernel
theorem w_1818 : lw_tbl[1818]? = some (.methodLink "GraphNamesModel" (454) (⟨"GraphNamesModel", "laysTurned", "(I)V"⟩ : MethodName) : Cond) := by decide +kernel
theorem w_1820 : lw_tbl[1820]? = some (.instanceMethod (⟨"GraphNamesModel", "laysTurned", "(I)V"⟩ : MethodName) : Cond) := by decide +kernel
theorem w_1821 : lw_tbl[1821]? = some (.code (⟨"GraphNamesModel", "laysTurned", "(I)V"⟩) prog_12_method_49_code 4 none : Cond) := by decide +kernel
theorem w_1822 : lw_tbl[1822]? = some (.methodLink "GraphNamesLaw" (139) (⟨"GraphNamesModel", "link", "(IIII)I"⟩ : MethodName) : Cond) := by decide +kernel
theorem w_1823 : lw_tbl[1823]? = some (.instanceMethod (⟨"GraphNamesModel", "link", "(IIII)I"⟩ : MethodName) : Cond) := by decide +kernel
theorem w_1824 : lw_tbl[1824]? = some (.selects "GraphNamesModel" (⟨"GraphNamesModel", "link", "(IIII)I"⟩ : MethodName) (⟨"GraphNamesModel", "link", "(IIII)I"⟩ : MethodName) : Cond) := by decide +kernel
theorem w_1825 : lw_tbl[1825]? = some (.code (⟨"GraphNamesModel", "link", "(IIII)I"⟩) prog_12_method_117_code 6 (some .int) : Cond) := by decide +kernel
theorem w_1826 : lw_tbl[1826]? = some (.methodLink "GraphNamesModel" (460) (⟨"GraphNamesModel", "putsKind", "(IIII)V"⟩ : MethodName) : Cond) := by decide +kernel
theorem w_1828 : lw_tbl[1828]? = some (.instanceMethod (⟨"GraphNamesModel", "putsKind", "(IIII)V"⟩ : MethodName) : Cond) := by decide +kernel
theorem w_1829 : lw_tbl[1829]? = some (.code (⟨"GraphNamesModel", "putsKind", "(IIII)V"⟩) prog_12_method_116_code 5 none : Cond) := by decide +kernel
theorem w_1830 : lw_tbl[1830]? = some (.methodLink "GraphNamesLaw" (143) (⟨"GraphNamesModel", "paint", "(III)I"⟩ : MethodName) : Cond) := by decide +kernel
theorem w_1831 : lw_tbl[1831]? = some (.instanceMethod (⟨"GraphNamesModel", "paint", "(III)I"⟩ : MethodName) : Cond) := by decide +kernel
theorem w_1832 : lw_tbl[1832]? = some (.selects "GraphNamesModel" (⟨"GraphNamesModel", "paint", "(III)I"⟩ : MethodName) (⟨"GraphNamesModel", "paint", "(III)I"⟩ : MethodName) : Cond) := by decide +kernel
theorem w_1833 : lw_tbl[1833]? = some (.code (⟨"GraphNamesModel", "paint", "(III)I"⟩) prog_12_method_118_code 5 (some .int) : Cond) := by decide +kernel
theorem w_1834 : lw_tbl[1834]? = some (.methodLink "GraphNamesLaw" (147) (⟨"GraphNamesModel", "swap", "(III)I"⟩ : MethodName) : Cond) := by decide +kernel
theorem w_1835 : lw_tbl[1835]? = some (.instanceMethod (⟨"GraphNamesModel", "swap", "(III)I"⟩ : MethodName) : Cond) := by decide +kernel
theorem w_1836 : lw_tbl[1836]? = some (.selects "GraphNamesModel" (⟨"GraphNamesModel", "swap", "(III)I"⟩ : MethodName) (⟨"GraphNamesModel", "swap", "(III)I"⟩ : MethodName) : Cond) := by decide +kernel
theorem w_1837 : lw_tbl[1837]? = some (.code (⟨"GraphNamesModel", "swap", "(III)I"⟩) prog_12_method_120_code 5 (some .int) : Cond) := by decide +kernel
theorem w_1838 : lw_tbl[1838]? = some (.methodLink "GraphNamesModel" (464) (⟨"GraphNamesModel", "swaps", "(III)V"⟩ : MethodName) : Cond) := by decide +kernel
theorem w_1840 : lw_tbl[1840]? = some (.instanceMethod (⟨"GraphNamesModel", "swaps", "(III)V"⟩ : MethodName) : Cond) := by decide +kernel
theorem w_1841 : lw_tbl[1841]? = some (.code (⟨"GraphNamesModel", "swaps", "(III)V"⟩) prog_12_method_119_code 7 none : Cond) := by decide +kernel
theorem w_1842 : lw_tbl[1842]? = some (.methodLink "GraphNamesLaw" (151) (⟨"GraphNamesModel", "shuffle", "(II)I"⟩ : MethodName) : Cond) := by decide +kernel
theorem w_1843 : lw_tbl[1843]? = some (.instanceMethod (⟨"GraphNamesModel", "shuffle", "(II)I"⟩ : MethodName) : Cond) := by decide +kernel
theorem w_1844 : lw_tbl[1844]? = some (.selects "GraphNamesModel" (⟨"GraphNamesModel", "shuffle", "(II)I"⟩ : MethodName) (⟨"GraphNamesModel", "shuffle", "(II)I"⟩ : MethodName) : Cond) := by decide +kernel
theorem w_1845 : lw_tbl[1845]? = some (.code (⟨"GraphNamesModel", "shuffle", "(II)I"⟩) prog_12_method_122_code 6 (some .int) : Cond) := by decide +kernel
theorem w_1846 : lw_tbl[1846]? = some (.constant "GraphNamesModel" 475 (2147483646) : Cond) := by decide +kernel
theorem w_1847 : lw_tbl[1847]? = some (.methodLink "GraphNamesModel" (476) (⟨"GraphNamesModel", "draw", "(I)I"⟩ : MethodName) : Cond) := by decide +kernel
theorem w_1849 : lw_tbl[1849]? = some (.instanceMethod (⟨"GraphNamesModel", "draw", "(I)I"⟩ : MethodName) : Cond) := by decide +kernel
theorem w_1850 : lw_tbl[1850]? = some (.code (⟨"GraphNamesModel", "draw", "(I)I"⟩) prog_12_method_121_code 2 (some .int) : Cond) := by decide +kernel
theorem w_1851 : lw_tbl[1851]? = some (.constantLong "GraphNamesModel" 471 (48271) : Cond) := by decide +kernel
theorem w_1852 : lw_tbl[1852]? = some (.constantLong "GraphNamesModel" 473 (2147483647) : Cond) := by decide +kernel
theorem w_1853 : lw_tbl[1853]? = some (.methodLink "GraphNamesLaw" (155) (⟨"GraphNamesModel", "copy", "(II)I"⟩ : MethodName) : Cond) := by decide +kernel
theorem w_1854 : lw_tbl[1854]? = some (.instanceMethod (⟨"GraphNamesModel", "copy", "(II)I"⟩ : MethodName) : Cond) := by decide +kernel
theorem w_1855 : lw_tbl[1855]? = some (.selects "GraphNamesModel" (⟨"GraphNamesModel", "copy", "(II)I"⟩ : MethodName) (⟨"GraphNamesModel", "copy", "(II)I"⟩ : MethodName) : Cond) := by decide +kernel
theorem w_1856 : lw_tbl[1856]? = some (.code (⟨"GraphNamesModel", "copy", "(II)I"⟩) prog_12_method_123_code 4 (some .int) : Cond) := by decide +kernel
theorem w_1857 : lw_tbl[1857]? = some (.methodLink "GraphNamesLaw" (159) (⟨"GraphNamesModel", "turn", "(I)I"⟩ : MethodName) : Cond) := by decide +kernel
theorem w_1858 : lw_tbl[1858]? = some (.instanceMethod (⟨"GraphNamesModel", "turn", "(I)I"⟩ : MethodName) : Cond) := by decide +kernel
theorem w_1859 : lw_tbl[1859]? = some (.selects "GraphNamesModel" (⟨"GraphNamesModel", "turn", "(I)I"⟩ : MethodName) (⟨"GraphNamesModel", "turn", "(I)I"⟩ : MethodName) : Cond) := by decide +kernel
theorem w_1860 : lw_tbl[1860]? = some (.code (⟨"GraphNamesModel", "turn", "(I)I"⟩) prog_12_method_125_code 2 (some .int) : Cond) := by decide +kernel
theorem w_1861 : lw_tbl[1861]? = some (.methodLink "GraphNamesModel" (479) (⟨"GraphNamesModel", "becomesLaid", "(I)V"⟩ : MethodName) : Cond) := by decide +kernel
theorem w_1863 : lw_tbl[1863]? = some (.instanceMethod (⟨"GraphNamesModel", "becomesLaid", "(I)V"⟩ : MethodName) : Cond) := by decide +kernel
theorem w_1864 : lw_tbl[1864]? = some (.code (⟨"GraphNamesModel", "becomesLaid", "(I)V"⟩) prog_12_method_124_code 4 none : Cond) := by decide +kernel
theorem w_1865 : lw_tbl[1865]? = some (.methodLink "GraphNamesLaw" (163) (⟨"GraphNamesModel", "drop", "(II)I"⟩ : MethodName) : Cond) := by decide +kernel
theorem w_1866 : lw_tbl[1866]? = some (.instanceMethod (⟨"GraphNamesModel", "drop", "(II)I"⟩ : MethodName) : Cond) := by decide +kernel
theorem w_1867 : lw_tbl[1867]? = some (.selects "GraphNamesModel" (⟨"GraphNamesModel", "drop", "(II)I"⟩ : MethodName) (⟨"GraphNamesModel", "drop", "(II)I"⟩ : MethodName) : Cond) := by decide +kernel
theorem w_1868 : lw_tbl[1868]? = some (.code (⟨"GraphNamesModel", "drop", "(II)I"⟩) prog_12_method_126_code 3 (some .int) : Cond) := by decide +kernel
theorem w_1869 : lw_tbl[1869]? = some (.methodLink "GraphNamesLaw" (167) (⟨"GraphNamesModel", "grow", "(III)I"⟩ : MethodName) : Cond) := by decide +kernel
theorem w_1870 : lw_tbl[1870]? = some (.instanceMethod (⟨"GraphNamesModel", "grow", "(III)I"⟩ : MethodName) : Cond) := by decide +kernel
theorem w_1871 : lw_tbl[1871]? = some (.selects "GraphNamesModel" (⟨"GraphNamesModel", "grow", "(III)I"⟩ : MethodName) (⟨"GraphNamesModel", "grow", "(III)I"⟩ : MethodName) : Cond) := by decide +kernel
theorem w_1872 : lw_tbl[1872]? = some (.code (⟨"GraphNamesModel", "grow", "(III)I"⟩) prog_12_method_127_code 6 (some .int) : Cond) := by decide +kernel
theorem w_1873 : lw_tbl[1873]? = some (.methodLink "GraphNamesLaw" (171) (⟨"GraphNamesModel", "undo", "()I"⟩ : MethodName) : Cond) := by decide +kernel
theorem w_1874 : lw_tbl[1874]? = some (.instanceMethod (⟨"GraphNamesModel", "undo", "()I"⟩ : MethodName) : Cond) := by decide +kernel
theorem w_1875 : lw_tbl[1875]? = some (.selects "GraphNamesModel" (⟨"GraphNamesModel", "undo", "()I"⟩ : MethodName) (⟨"GraphNamesModel", "undo", "()I"⟩ : MethodName) : Cond) := by decide +kernel
theorem w_1876 : lw_tbl[1876]? = some (.code (⟨"GraphNamesModel", "undo", "()I"⟩) prog_12_method_128_code 2 (some .int) : Cond) := by decide +kernel
theorem w_1877 : lw_tbl[1877]? = some (.methodLink "GraphNamesLaw" (176) (⟨"GraphNamesModel", "image", "(I)Z"⟩ : MethodName) : Cond) := by decide +kernel
theorem w_1878 : lw_tbl[1878]? = some (.instanceMethod (⟨"GraphNamesModel", "image", "(I)Z"⟩ : MethodName) : Cond) := by decide +kernel
theorem w_1879 : lw_tbl[1879]? = some (.selects "GraphNamesModel" (⟨"GraphNamesModel", "image", "(I)Z"⟩ : MethodName) (⟨"GraphNamesModel", "image", "(I)Z"⟩ : MethodName) : Cond) := by decide +kernel
theorem w_1880 : lw_tbl[1880]? = some (.code (⟨"GraphNamesModel", "image", "(I)Z"⟩) prog_12_method_129_code 3 (some .boolean) : Cond) := by decide +kernel
theorem w_1881 : lw_tbl[1881]? = some (.methodLink "GraphNamesLaw" (180) (⟨"GraphNamesModel", "again", "(I)Z"⟩ : MethodName) : Cond) := by decide +kernel
theorem w_1882 : lw_tbl[1882]? = some (.instanceMethod (⟨"GraphNamesModel", "again", "(I)Z"⟩ : MethodName) : Cond) := by decide +kernel
theorem w_1883 : lw_tbl[1883]? = some (.selects "GraphNamesModel" (⟨"GraphNamesModel", "again", "(I)Z"⟩ : MethodName) (⟨"GraphNamesModel", "again", "(I)Z"⟩ : MethodName) : Cond) := by decide +kernel
theorem w_1884 : lw_tbl[1884]? = some (.code (⟨"GraphNamesModel", "again", "(I)Z"⟩) prog_12_method_130_code 3 (some .boolean) : Cond) := by decide +kernel
