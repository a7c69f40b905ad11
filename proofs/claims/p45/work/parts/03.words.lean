/-! words of the tables by their places -/
theorem w_0 : lw_tbl[0]? = some (.selects "GraphNames" (⟨"GraphNames", "at", "(I)LGraphNames$Graph;"⟩ : MethodName) (⟨"GraphNames", "at", "(I)LGraphNames$Graph;"⟩ : MethodName) : Cond) := by decide +kernel
theorem w_1 : lw_tbl[1]? = some (.selects "GraphNames" (⟨"GraphNames", "refused", "(I)I"⟩ : MethodName) (⟨"GraphNames", "refused", "(I)I"⟩ : MethodName) : Cond) := by decide +kernel
theorem w_2 : lw_tbl[2]? = some (.selects "GraphNames" (⟨"GraphNames", "answered", "(I)I"⟩ : MethodName) (⟨"GraphNames", "answered", "(I)I"⟩ : MethodName) : Cond) := by decide +kernel
theorem w_3 : lw_tbl[3]? = some (.selects "GraphNames$Cells" (⟨"GraphNames$Cells", "signOf", "(LGraphNames$Graph;I)J"⟩ : MethodName) (⟨"GraphNames$Cells", "signOf", "(LGraphNames$Graph;I)J"⟩ : MethodName) : Cond) := by decide +kernel
theorem w_4 : lw_tbl[4]? = some (.selects "GraphNames$Cells" (⟨"GraphNames$Cells", "split", "(I)V"⟩ : MethodName) (⟨"GraphNames$Cells", "split", "(I)V"⟩ : MethodName) : Cond) := by decide +kernel
theorem w_5 : lw_tbl[5]? = some (.selects "GraphNames$Search" (⟨"GraphNames$Search", "note", "(LGraphNames$Leaf;)V"⟩ : MethodName) (⟨"GraphNames$Search", "note", "(LGraphNames$Leaf;)V"⟩ : MethodName) : Cond) := by decide +kernel
theorem w_6 : lw_tbl[6]? = some (.selects "GraphNames$Search" (⟨"GraphNames$Search", "spread", "(II)I"⟩ : MethodName) (⟨"GraphNames$Search", "spread", "(II)I"⟩ : MethodName) : Cond) := by decide +kernel
theorem w_7 : lw_tbl[7]? = some (.selects "GraphNames$Search" (⟨"GraphNames$Search", "leavesAlone", "(II)Z"⟩ : MethodName) (⟨"GraphNames$Search", "leavesAlone", "(II)Z"⟩ : MethodName) : Cond) := by decide +kernel
theorem w_8 : lw_tbl[8]? = some (.selects "GraphNames$Search" (⟨"GraphNames$Search", "imageOf", "(II)I"⟩ : MethodName) (⟨"GraphNames$Search", "imageOf", "(II)I"⟩ : MethodName) : Cond) := by decide +kernel
theorem w_9 : lw_tbl[9]? = some (.selects "GraphNames" (⟨"GraphNames", "searchOf", "(I)LGraphNames$Search;"⟩ : MethodName) (⟨"GraphNames", "searchOf", "(I)LGraphNames$Search;"⟩ : MethodName) : Cond) := by decide +kernel
theorem w_10 : lw_tbl[10]? = some (.selects "GraphNames$Pairing" (⟨"GraphNames$Pairing", "send", "(II)V"⟩ : MethodName) (⟨"GraphNames$Pairing", "send", "(II)V"⟩ : MethodName) : Cond) := by decide +kernel
theorem w_11 : lw_tbl[11]? = some (.selects "GraphNames$Pairing" (⟨"GraphNames$Pairing", "note", "()V"⟩ : MethodName) (⟨"GraphNames$Pairing", "note", "()V"⟩ : MethodName) : Cond) := by decide +kernel
theorem w_12 : lw_tbl[12]? = some (.selects "GraphNames$Pairing" (⟨"GraphNames$Pairing", "fits", "(II)Z"⟩ : MethodName) (⟨"GraphNames$Pairing", "fits", "(II)Z"⟩ : MethodName) : Cond) := by decide +kernel
theorem w_13 : lw_tbl[13]? = some (.selects "GraphNames$Pairing" (⟨"GraphNames$Pairing", "unlike", "(II)I"⟩ : MethodName) (⟨"GraphNames$Pairing", "unlike", "(II)I"⟩ : MethodName) : Cond) := by decide +kernel
theorem w_14 : lw_tbl[14]? = some (.selects "GraphNames$Pairing" (⟨"GraphNames$Pairing", "weigh", "(III)V"⟩ : MethodName) (⟨"GraphNames$Pairing", "weigh", "(III)V"⟩ : MethodName) : Cond) := by decide +kernel
theorem w_15 : lw_tbl[15]? = some (.selects "GraphNames" (⟨"GraphNames", "toldApart", "(LGraphNames$Graph;LGraphNames$Graph;)I"⟩ : MethodName) (⟨"GraphNames", "toldApart", "(LGraphNames$Graph;LGraphNames$Graph;)I"⟩ : MethodName) : Cond) := by decide +kernel
theorem w_17 : lw_tbl[17]? = some (.selects "GraphNames$Reader" (⟨"GraphNames$Reader", "step", "()V"⟩ : MethodName) (⟨"GraphNames$Reader", "step", "()V"⟩ : MethodName) : Cond) := by decide +kernel
theorem w_18 : lw_tbl[18]? = some (.selects "GraphNames$Reader" (⟨"GraphNames$Reader", "readSize", "()Z"⟩ : MethodName) (⟨"GraphNames$Reader", "readSize", "()Z"⟩ : MethodName) : Cond) := by decide +kernel
theorem w_19 : lw_tbl[19]? = some (.selects "GraphNames$Reader" (⟨"GraphNames$Reader", "isWord", "(Ljava/lang/String;)Z"⟩ : MethodName) (⟨"GraphNames$Reader", "isWord", "(Ljava/lang/String;)Z"⟩ : MethodName) : Cond) := by decide +kernel
theorem w_20 : lw_tbl[20]? = some (.selects "GraphNames$Reader" (⟨"GraphNames$Reader", "fails", "(I)Z"⟩ : MethodName) (⟨"GraphNames$Reader", "fails", "(I)Z"⟩ : MethodName) : Cond) := by decide +kernel
theorem w_21 : lw_tbl[21]? = some (.selects "GraphNames$Reader" (⟨"GraphNames$Reader", "digit", "()I"⟩ : MethodName) (⟨"GraphNames$Reader", "digit", "()I"⟩ : MethodName) : Cond) := by decide +kernel
theorem w_22 : lw_tbl[22]? = some (.selects "GraphNames$Reader" (⟨"GraphNames$Reader", "readLines", "()V"⟩ : MethodName) (⟨"GraphNames$Reader", "readLines", "()V"⟩ : MethodName) : Cond) := by decide +kernel
theorem w_23 : lw_tbl[23]? = some (.selects "GraphNames$Reader" (⟨"GraphNames$Reader", "readLine", "()Z"⟩ : MethodName) (⟨"GraphNames$Reader", "readLine", "()Z"⟩ : MethodName) : Cond) := by decide +kernel
theorem w_24 : lw_tbl[24]? = some (.selects "GraphNames$Reader" (⟨"GraphNames$Reader", "readPaint", "()Z"⟩ : MethodName) (⟨"GraphNames$Reader", "readPaint", "()Z"⟩ : MethodName) : Cond) := by decide +kernel
theorem w_25 : lw_tbl[25]? = some (.selects "GraphNames$Reader" (⟨"GraphNames$Reader", "isVertex", "()Z"⟩ : MethodName) (⟨"GraphNames$Reader", "isVertex", "()Z"⟩ : MethodName) : Cond) := by decide +kernel
theorem w_26 : lw_tbl[26]? = some (.selects "GraphNames$Reader" (⟨"GraphNames$Reader", "readLink", "()Z"⟩ : MethodName) (⟨"GraphNames$Reader", "readLink", "()Z"⟩ : MethodName) : Cond) := by decide +kernel
theorem w_27 : lw_tbl[27]? = some (.selects "GraphNames$Reader" (⟨"GraphNames$Reader", "joins", "(II)Z"⟩ : MethodName) (⟨"GraphNames$Reader", "joins", "(II)Z"⟩ : MethodName) : Cond) := by decide +kernel
theorem w_28 : lw_tbl[28]? = some (.selects "GraphNames$Reader" (⟨"GraphNames$Reader", "readChain", "(IZ)Z"⟩ : MethodName) (⟨"GraphNames$Reader", "readChain", "(IZ)Z"⟩ : MethodName) : Cond) := by decide +kernel
theorem w_29 : lw_tbl[29]? = some (.selects "GraphNames" (⟨"GraphNames", "cellsWith", "(LGraphNames$Graph;I)I"⟩ : MethodName) (⟨"GraphNames", "cellsWith", "(LGraphNames$Graph;I)I"⟩ : MethodName) : Cond) := by decide +kernel
theorem w_30 : lw_tbl[30]? = some (.initialized "GraphNamesLaw" : Cond) := by decide +kernel
theorem w_31 : lw_tbl[31]? = some (.initialized "GraphNamesLaw$Draws" : Cond) := by decide +kernel
theorem w_32 : lw_tbl[32]? = some (.initialized "GraphNames" : Cond) := by decide +kernel
theorem w_33 : lw_tbl[33]? = some (.initialized "GraphNames$Reader" : Cond) := by decide +kernel
theorem w_34 : lw_tbl[34]? = some (.initialized "GraphNames$Graph" : Cond) := by decide +kernel
theorem w_35 : lw_tbl[35]? = some (.initialized "GraphNames$Past" : Cond) := by decide +kernel
theorem w_36 : lw_tbl[36]? = some (.initialized "GraphNames$Cells" : Cond) := by decide +kernel
theorem w_37 : lw_tbl[37]? = some (.initialized "GraphNames$Pairing" : Cond) := by decide +kernel
theorem w_38 : lw_tbl[38]? = some (.initialized "GraphNames$Walk" : Cond) := by decide +kernel
theorem w_39 : lw_tbl[39]? = some (.initialized "GraphNames$Search" : Cond) := by decide +kernel
theorem w_40 : lw_tbl[40]? = some (.initialized "GraphNames$Leaf" : Cond) := by decide +kernel
theorem w_41 : lw_tbl[41]? = some (.initialized "GraphNames$Tree" : Cond) := by decide +kernel
theorem w_43 : lw_tbl[43]? = some (.initialized "java/lang/Integer" : Cond) := by decide +kernel
theorem w_44 : lw_tbl[44]? = some (.initialized "java/lang/Math" : Cond) := by decide +kernel
theorem w_46 : lw_tbl[46]? = some (.initialized "java/lang/AbstractStringBuilder" : Cond) := by decide +kernel
theorem w_47 : lw_tbl[47]? = some (.initialized "java/lang/StringBuilder" : Cond) := by decide +kernel
theorem w_48 : lw_tbl[48]? = some (.initialized "java/lang/String" : Cond) := by decide +kernel
theorem w_49 : lw_tbl[49]? = some (.initialized "java/lang/StringUTF16" : Cond) := by decide +kernel
theorem w_50 : lw_tbl[50]? = some (.initialized "jdk/internal/util/ArraysSupport" : Cond) := by decide +kernel
theorem w_51 : lw_tbl[51]? = some (.initialized "java/util/Arrays" : Cond) := by decide +kernel
theorem w_52 : lw_tbl[52]? = some (.initialized "jdk/internal/util/Preconditions" : Cond) := by decide +kernel
theorem w_53 : lw_tbl[53]? = some (.initialized "java/lang/StringLatin1" : Cond) := by decide +kernel
theorem w_60 : lw_tbl[60]? = some (.methodLink "GraphNamesLaw" (113) (⟨"GraphNames", "<init>", "()V"⟩ : MethodName) : Cond) := by decide +kernel
theorem w_61 : lw_tbl[61]? = some (.instanceMethod (⟨"GraphNames", "<init>", "()V"⟩ : MethodName) : Cond) := by decide +kernel
theorem w_62 : lw_tbl[62]? = some (.code (⟨"GraphNames", "<init>", "()V"⟩) prog_1_method_1_code 2 none : Cond) := by decide +kernel
theorem w_74 : lw_tbl[74]? = some (.methodLinkNest "GraphNames" (29) (⟨"GraphNames$Reader", "<init>", "()V"⟩ : MethodName) "GraphNames" : Cond) := by decide +kernel
theorem w_75 : lw_tbl[75]? = some (.instanceMethod (⟨"GraphNames$Reader", "<init>", "()V"⟩ : MethodName) : Cond) := by decide +kernel
theorem w_76 : lw_tbl[76]? = some (.code (⟨"GraphNames$Reader", "<init>", "()V"⟩) prog_7_method_1_code 1 none : Cond) := by decide +kernel
theorem w_80 : lw_tbl[80]? = some (.methodLinkNest "GraphNames$Reader" (23) (⟨"GraphNames$Graph", "<init>", "()V"⟩ : MethodName) "GraphNames" : Cond) := by decide +kernel
theorem w_81 : lw_tbl[81]? = some (.instanceMethod (⟨"GraphNames$Graph", "<init>", "()V"⟩ : MethodName) : Cond) := by decide +kernel
theorem w_82 : lw_tbl[82]? = some (.code (⟨"GraphNames$Graph", "<init>", "()V"⟩) prog_3_method_1_code 1 none : Cond) := by decide +kernel
theorem w_86 : lw_tbl[86]? = some (.fieldLink "GraphNames$Graph" (9) "GraphNames$Graph" "count" "I" : Cond) := by decide +kernel
theorem w_87 : lw_tbl[87]? = some (.fieldLink "GraphNames$Leaf" (28) "GraphNames$Graph" "count" "I" : Cond) := by decide +kernel
theorem w_88 : lw_tbl[88]? = some (.fieldLink "GraphNames$Pairing" (45) "GraphNames$Graph" "count" "I" : Cond) := by decide +kernel
theorem w_89 : lw_tbl[89]? = some (.fieldLink "GraphNames$Cells" (42) "GraphNames$Graph" "count" "I" : Cond) := by decide +kernel
theorem w_90 : lw_tbl[90]? = some (.fieldLink "GraphNames" (119) "GraphNames$Graph" "count" "I" : Cond) := by decide +kernel
theorem w_91 : lw_tbl[91]? = some (.fieldLink "GraphNames$Search" (47) "GraphNames$Graph" "count" "I" : Cond) := by decide +kernel
theorem w_92 : lw_tbl[92]? = some (.fieldLink "GraphNames$Walk" (88) "GraphNames$Graph" "count" "I" : Cond) := by decide +kernel
theorem w_93 : lw_tbl[93]? = some (.fieldLink "GraphNames$Graph" (15) "GraphNames$Graph" "colours" "[I" : Cond) := by decide +kernel
theorem w_94 : lw_tbl[94]? = some (.fieldLink "GraphNames$Leaf" (44) "GraphNames$Graph" "colours" "[I" : Cond) := by decide +kernel
theorem w_95 : lw_tbl[95]? = some (.fieldLink "GraphNames$Cells" (45) "GraphNames$Graph" "colours" "[I" : Cond) := by decide +kernel
theorem w_96 : lw_tbl[96]? = some (.fieldLink "GraphNames$Pairing" (66) "GraphNames$Graph" "colours" "[I" : Cond) := by decide +kernel
theorem w_97 : lw_tbl[97]? = some (.fieldLink "GraphNames" (143) "GraphNames$Graph" "colours" "[I" : Cond) := by decide +kernel
theorem w_98 : lw_tbl[98]? = some (.fieldLink "GraphNames$Reader" (103) "GraphNames$Graph" "colours" "[I" : Cond) := by decide +kernel
theorem w_99 : lw_tbl[99]? = some (.fieldLink "GraphNames$Graph" (21) "GraphNames$Graph" "kinds" "[[I" : Cond) := by decide +kernel
theorem w_100 : lw_tbl[100]? = some (.fieldLink "GraphNames$Leaf" (47) "GraphNames$Graph" "kinds" "[[I" : Cond) := by decide +kernel
theorem w_101 : lw_tbl[101]? = some (.fieldLink "GraphNames$Pairing" (69) "GraphNames$Graph" "kinds" "[[I" : Cond) := by decide +kernel
theorem w_102 : lw_tbl[102]? = some (.fieldLink "GraphNames" (147) "GraphNames$Graph" "kinds" "[[I" : Cond) := by decide +kernel
theorem w_103 : lw_tbl[103]? = some (.fieldLink "GraphNames$Reader" (113) "GraphNames$Graph" "kinds" "[[I" : Cond) := by decide +kernel
theorem w_104 : lw_tbl[104]? = some (.fieldLink "GraphNames$Graph" (24) "GraphNames$Graph" "linked" "[[I" : Cond) := by decide +kernel
theorem w_105 : lw_tbl[105]? = some (.fieldLink "GraphNames$Cells" (66) "GraphNames$Graph" "linked" "[[I" : Cond) := by decide +kernel
theorem w_106 : lw_tbl[106]? = some (.fieldLink "GraphNames" (151) "GraphNames$Graph" "linked" "[[I" : Cond) := by decide +kernel
theorem w_117 : lw_tbl[117]? = some (.fieldLink "GraphNames$Reader" (9) "GraphNames$Reader" "held" "I" : Cond) := by decide +kernel
theorem w_118 : lw_tbl[118]? = some (.fieldLink "GraphNames" (87) "GraphNames$Reader" "held" "I" : Cond) := by decide +kernel
theorem w_119 : lw_tbl[119]? = some (.fieldLink "GraphNames$Reader" (15) "GraphNames$Reader" "fault" "I" : Cond) := by decide +kernel
theorem w_120 : lw_tbl[120]? = some (.fieldLink "GraphNames" (105) "GraphNames$Reader" "fault" "I" : Cond) := by decide +kernel
theorem w_121 : lw_tbl[121]? = some (.fieldLink "GraphNames$Reader" (18) "GraphNames$Reader" "place" "I" : Cond) := by decide +kernel
theorem w_122 : lw_tbl[122]? = some (.fieldLink "GraphNames$Reader" (24) "GraphNames$Reader" "graph" "LGraphNames$Graph;" : Cond) := by decide +kernel
theorem w_123 : lw_tbl[123]? = some (.fieldLink "GraphNames" (112) "GraphNames$Reader" "graph" "LGraphNames$Graph;" : Cond) := by decide +kernel
theorem w_124 : lw_tbl[124]? = some (.fieldLink "GraphNames$Reader" (28) "GraphNames$Reader" "tape" "[I" : Cond) := by decide +kernel
theorem w_125 : lw_tbl[125]? = some (.fieldLink "GraphNames$Reader" (32) "GraphNames$Reader" "end" "I" : Cond) := by decide +kernel
theorem w_126 : lw_tbl[126]? = some (.fieldLink "GraphNames$Reader" (35) "GraphNames$Reader" "token" "I" : Cond) := by decide +kernel
theorem w_127 : lw_tbl[127]? = some (.fieldLink "GraphNames$Reader" (38) "GraphNames$Reader" "at" "I" : Cond) := by decide +kernel
theorem w_128 : lw_tbl[128]? = some (.fieldLink "GraphNames$Reader" (41) "GraphNames$Reader" "next" "I" : Cond) := by decide +kernel
theorem w_129 : lw_tbl[129]? = some (.fieldLink "GraphNames$Reader" (44) "GraphNames$Reader" "painted" "I" : Cond) := by decide +kernel
theorem w_153 : lw_tbl[153]? = some (.methodLink "GraphNames" (36) (⟨"GraphNames$Past", "<init>", "()V"⟩ : MethodName) : Cond) := by decide +kernel
theorem w_154 : lw_tbl[154]? = some (.instanceMethod (⟨"GraphNames$Past", "<init>", "()V"⟩ : MethodName) : Cond) := by decide +kernel
theorem w_155 : lw_tbl[155]? = some (.code (⟨"GraphNames$Past", "<init>", "()V"⟩) prog_6_method_1_code 2 none : Cond) := by decide +kernel
theorem w_158 : lw_tbl[158]? = some (.methodLinkNest "GraphNames$Past" (28) (⟨"GraphNames$Graph", "<init>", "()V"⟩ : MethodName) "GraphNames" : Cond) := by decide +kernel
theorem w_159 : lw_tbl[159]? = some (.fieldLink "GraphNames$Past" (9) "GraphNames$Past" "count" "I" : Cond) := by decide +kernel
theorem w_160 : lw_tbl[160]? = some (.fieldLink "GraphNames$Past" (15) "GraphNames$Past" "next" "I" : Cond) := by decide +kernel
theorem w_161 : lw_tbl[161]? = some (.fieldLink "GraphNames$Past" (18) "GraphNames$Past" "which" "[I" : Cond) := by decide +kernel
theorem w_162 : lw_tbl[162]? = some (.fieldLink "GraphNames$Past" (24) "GraphNames$Past" "were" "[LGraphNames$Graph;" : Cond) := by decide +kernel
theorem w_174 : lw_tbl[174]? = some (.methodLinkNest "GraphNames" (50) (⟨"GraphNames$Cells", "<init>", "()V"⟩ : MethodName) "GraphNames" : Cond) := by decide +kernel
theorem w_175 : lw_tbl[175]? = some (.instanceMethod (⟨"GraphNames$Cells", "<init>", "()V"⟩ : MethodName) : Cond) := by decide +kernel
theorem w_176 : lw_tbl[176]? = some (.code (⟨"GraphNames$Cells", "<init>", "()V"⟩) prog_2_method_1_code 1 none : Cond) := by decide +kernel
theorem w_178 : lw_tbl[178]? = some (.fieldLink "GraphNames$Cells" (9) "GraphNames$Cells" "count" "I" : Cond) := by decide +kernel
theorem w_179 : lw_tbl[179]? = some (.fieldLink "GraphNames" (135) "GraphNames$Cells" "count" "I" : Cond) := by decide +kernel
theorem w_180 : lw_tbl[180]? = some (.fieldLink "GraphNames$Cells" (15) "GraphNames$Cells" "rounds" "I" : Cond) := by decide +kernel
theorem w_181 : lw_tbl[181]? = some (.fieldLink "GraphNames" (162) "GraphNames$Cells" "rounds" "I" : Cond) := by decide +kernel
theorem w_182 : lw_tbl[182]? = some (.fieldLink "GraphNames$Cells" (18) "GraphNames$Cells" "sets" "[I" : Cond) := by decide +kernel
theorem w_183 : lw_tbl[183]? = some (.fieldLink "GraphNames$Leaf" (33) "GraphNames$Cells" "sets" "[I" : Cond) := by decide +kernel
theorem w_184 : lw_tbl[184]? = some (.fieldLink "GraphNames" (171) "GraphNames$Cells" "sets" "[I" : Cond) := by decide +kernel
theorem w_185 : lw_tbl[185]? = some (.fieldLink "GraphNames$Cells" (22) "GraphNames$Cells" "signs" "[J" : Cond) := by decide +kernel
theorem w_186 : lw_tbl[186]? = some (.fieldLink "GraphNames$Cells" (26) "GraphNames$Cells" "own" "[J" : Cond) := by decide +kernel
theorem w_187 : lw_tbl[187]? = some (.fieldLink "GraphNames$Cells" (29) "GraphNames$Cells" "parts" "[I" : Cond) := by decide +kernel
theorem w_188 : lw_tbl[188]? = some (.fieldLink "GraphNames$Cells" (32) "GraphNames$Cells" "partCount" "I" : Cond) := by decide +kernel
theorem w_208 : lw_tbl[208]? = some (.methodLinkNest "GraphNames" (60) (⟨"GraphNames$Pairing", "<init>", "()V"⟩ : MethodName) "GraphNames" : Cond) := by decide +kernel
theorem w_209 : lw_tbl[209]? = some (.instanceMethod (⟨"GraphNames$Pairing", "<init>", "()V"⟩ : MethodName) : Cond) := by decide +kernel
theorem w_210 : lw_tbl[210]? = some (.code (⟨"GraphNames$Pairing", "<init>", "()V"⟩) prog_5_method_1_code 1 none : Cond) := by decide +kernel
theorem w_213 : lw_tbl[213]? = some (.methodLinkNest "GraphNames$Pairing" (24) (⟨"GraphNames$Graph", "<init>", "()V"⟩ : MethodName) "GraphNames" : Cond) := by decide +kernel
theorem w_214 : lw_tbl[214]? = some (.fieldLink "GraphNames$Pairing" (9) "GraphNames$Pairing" "ways" "I" : Cond) := by decide +kernel
theorem w_215 : lw_tbl[215]? = some (.fieldLink "GraphNames" (249) "GraphNames$Pairing" "ways" "I" : Cond) := by decide +kernel
theorem w_216 : lw_tbl[216]? = some (.fieldLink "GraphNames$Pairing" (15) "GraphNames$Pairing" "least" "[I" : Cond) := by decide +kernel
theorem w_217 : lw_tbl[217]? = some (.fieldLink "GraphNames" (264) "GraphNames$Pairing" "least" "[I" : Cond) := by decide +kernel
theorem w_218 : lw_tbl[218]? = some (.fieldLink "GraphNames$Pairing" (19) "GraphNames$Pairing" "reached" "[I" : Cond) := by decide +kernel
theorem w_219 : lw_tbl[219]? = some (.fieldLink "GraphNames" (258) "GraphNames$Pairing" "reached" "[I" : Cond) := by decide +kernel
theorem w_220 : lw_tbl[220]? = some (.fieldLink "GraphNames$Pairing" (25) "GraphNames$Pairing" "from" "LGraphNames$Graph;" : Cond) := by decide +kernel
theorem w_221 : lw_tbl[221]? = some (.fieldLink "GraphNames$Pairing" (29) "GraphNames$Pairing" "to" "LGraphNames$Graph;" : Cond) := by decide +kernel
theorem w_222 : lw_tbl[222]? = some (.fieldLink "GraphNames$Pairing" (32) "GraphNames$Pairing" "goes" "[I" : Cond) := by decide +kernel
theorem w_223 : lw_tbl[223]? = some (.fieldLink "GraphNames$Pairing" (35) "GraphNames$Pairing" "stay" "I" : Cond) := by decide +kernel
theorem w_224 : lw_tbl[224]? = some (.fieldLink "GraphNames$Pairing" (38) "GraphNames$Pairing" "fewest" "I" : Cond) := by decide +kernel
theorem w_242 : lw_tbl[242]? = some (.methodLinkNest "GraphNames" (65) (⟨"GraphNames$Graph", "<init>", "()V"⟩ : MethodName) "GraphNames" : Cond) := by decide +kernel
theorem w_244 : lw_tbl[244]? = some (.methodLinkNest "GraphNames" (70) (⟨"GraphNames$Search", "<init>", "()V"⟩ : MethodName) "GraphNames" : Cond) := by decide +kernel
theorem w_245 : lw_tbl[245]? = some (.instanceMethod (⟨"GraphNames$Search", "<init>", "()V"⟩ : MethodName) : Cond) := by decide +kernel
theorem w_246 : lw_tbl[246]? = some (.code (⟨"GraphNames$Search", "<init>", "()V"⟩) prog_8_method_1_code 1 none : Cond) := by decide +kernel
theorem w_247 : lw_tbl[247]? = some (.methodLink "GraphNames$Search" (3) (⟨"GraphNames$Walk", "<init>", "()V"⟩ : MethodName) : Cond) := by decide +kernel
theorem w_248 : lw_tbl[248]? = some (.instanceMethod (⟨"GraphNames$Walk", "<init>", "()V"⟩ : MethodName) : Cond) := by decide +kernel
theorem w_249 : lw_tbl[249]? = some (.code (⟨"GraphNames$Walk", "<init>", "()V"⟩) prog_10_method_1_code 2 none : Cond) := by decide +kernel
theorem w_252 : lw_tbl[252]? = some (.methodLinkNest "GraphNames$Walk" (11) (⟨"GraphNames$Graph", "<init>", "()V"⟩ : MethodName) "GraphNames" : Cond) := by decide +kernel
theorem w_257 : lw_tbl[257]? = some (.methodLinkNest "GraphNames$Walk" (26) (⟨"GraphNames$Leaf", "<init>", "()V"⟩ : MethodName) "GraphNames" : Cond) := by decide +kernel
theorem w_258 : lw_tbl[258]? = some (.instanceMethod (⟨"GraphNames$Leaf", "<init>", "()V"⟩ : MethodName) : Cond) := by decide +kernel
theorem w_259 : lw_tbl[259]? = some (.code (⟨"GraphNames$Leaf", "<init>", "()V"⟩) prog_4_method_1_code 1 none : Cond) := by decide +kernel
theorem w_261 : lw_tbl[261]? = some (.fieldLink "GraphNames$Leaf" (9) "GraphNames$Leaf" "depth" "I" : Cond) := by decide +kernel
theorem w_262 : lw_tbl[262]? = some (.fieldLink "GraphNames$Tree" (20) "GraphNames$Leaf" "depth" "I" : Cond) := by decide +kernel
theorem w_263 : lw_tbl[263]? = some (.fieldLink "GraphNames$Leaf" (15) "GraphNames$Leaf" "length" "I" : Cond) := by decide +kernel
theorem w_264 : lw_tbl[264]? = some (.fieldLink "GraphNames" (225) "GraphNames$Leaf" "length" "I" : Cond) := by decide +kernel
theorem w_265 : lw_tbl[265]? = some (.fieldLink "GraphNames$Leaf" (18) "GraphNames$Leaf" "marks" "[I" : Cond) := by decide +kernel
theorem w_266 : lw_tbl[266]? = some (.fieldLink "GraphNames$Walk" (66) "GraphNames$Leaf" "marks" "[I" : Cond) := by decide +kernel
theorem w_267 : lw_tbl[267]? = some (.fieldLink "GraphNames$Search" (61) "GraphNames$Leaf" "marks" "[I" : Cond) := by decide +kernel
theorem w_268 : lw_tbl[268]? = some (.fieldLink "GraphNames" (200) "GraphNames$Leaf" "marks" "[I" : Cond) := by decide +kernel
theorem w_269 : lw_tbl[269]? = some (.fieldLink "GraphNames$Leaf" (22) "GraphNames$Leaf" "code" "[I" : Cond) := by decide +kernel
theorem w_270 : lw_tbl[270]? = some (.fieldLink "GraphNames" (228) "GraphNames$Leaf" "code" "[I" : Cond) := by decide +kernel
theorem w_271 : lw_tbl[271]? = some (.fieldLink "GraphNames$Leaf" (25) "GraphNames$Leaf" "order" "[I" : Cond) := by decide +kernel
theorem w_272 : lw_tbl[272]? = some (.fieldLink "GraphNames$Search" (78) "GraphNames$Leaf" "order" "[I" : Cond) := by decide +kernel
theorem w_273 : lw_tbl[273]? = some (.fieldLink "GraphNames" (231) "GraphNames$Leaf" "order" "[I" : Cond) := by decide +kernel
theorem w_285 : lw_tbl[285]? = some (.methodLinkNest "GraphNames$Walk" (51) (⟨"GraphNames$Cells", "<init>", "()V"⟩ : MethodName) "GraphNames" : Cond) := by decide +kernel
theorem w_287 : lw_tbl[287]? = some (.methodLinkNest "GraphNames$Search" (24) (⟨"GraphNames$Leaf", "<init>", "()V"⟩ : MethodName) "GraphNames" : Cond) := by decide +kernel
theorem w_288 : lw_tbl[288]? = some (.fieldLink "GraphNames$Search" (9) "GraphNames$Search" "found" "I" : Cond) := by decide +kernel
theorem w_289 : lw_tbl[289]? = some (.fieldLink "GraphNames" (218) "GraphNames$Search" "found" "I" : Cond) := by decide +kernel
theorem w_290 : lw_tbl[290]? = some (.fieldLink "GraphNames$Search" (15) "GraphNames$Search" "bests" "I" : Cond) := by decide +kernel
theorem w_291 : lw_tbl[291]? = some (.fieldLink "GraphNames" (221) "GraphNames$Search" "bests" "I" : Cond) := by decide +kernel
theorem w_292 : lw_tbl[292]? = some (.fieldLink "GraphNames$Search" (18) "GraphNames$Search" "generators" "[I" : Cond) := by decide +kernel
theorem w_293 : lw_tbl[293]? = some (.fieldLink "GraphNames" (238) "GraphNames$Search" "generators" "[I" : Cond) := by decide +kernel
theorem w_294 : lw_tbl[294]? = some (.fieldLink "GraphNames$Search" (25) "GraphNames$Search" "first" "LGraphNames$Leaf;" : Cond) := by decide +kernel
theorem w_295 : lw_tbl[295]? = some (.fieldLink "GraphNames$Walk" (12) "GraphNames$Walk" "of" "LGraphNames$Graph;" : Cond) := by decide +kernel
theorem w_296 : lw_tbl[296]? = some (.fieldLink "GraphNames$Search" (43) "GraphNames$Search" "of" "LGraphNames$Graph;" : Cond) := by decide +kernel
theorem w_297 : lw_tbl[297]? = some (.sameField "GraphNames$Search" "GraphNames$Walk" "of" "LGraphNames$Graph;" : Cond) := by decide +kernel
theorem w_298 : lw_tbl[298]? = some (.fieldLink "GraphNames$Walk" (20) "GraphNames$Walk" "way" "[LGraphNames$Cells;" : Cond) := by decide +kernel
theorem w_299 : lw_tbl[299]? = some (.fieldLink "GraphNames$Walk" (27) "GraphNames$Walk" "here" "LGraphNames$Leaf;" : Cond) := by decide +kernel
theorem w_300 : lw_tbl[300]? = some (.fieldLink "GraphNames$Tree" (16) "GraphNames$Tree" "here" "LGraphNames$Leaf;" : Cond) := by decide +kernel
theorem w_301 : lw_tbl[301]? = some (.sameField "GraphNames$Tree" "GraphNames$Walk" "here" "LGraphNames$Leaf;" : Cond) := by decide +kernel
theorem w_302 : lw_tbl[302]? = some (.fieldLink "GraphNames$Search" (58) "GraphNames$Search" "here" "LGraphNames$Leaf;" : Cond) := by decide +kernel
theorem w_303 : lw_tbl[303]? = some (.sameField "GraphNames$Search" "GraphNames$Walk" "here" "LGraphNames$Leaf;" : Cond) := by decide +kernel
theorem w_304 : lw_tbl[304]? = some (.fieldLink "GraphNames$Walk" (31) "GraphNames$Walk" "best" "LGraphNames$Leaf;" : Cond) := by decide +kernel
theorem w_305 : lw_tbl[305]? = some (.fieldLink "GraphNames$Tree" (34) "GraphNames$Tree" "best" "LGraphNames$Leaf;" : Cond) := by decide +kernel
theorem w_306 : lw_tbl[306]? = some (.sameField "GraphNames$Tree" "GraphNames$Walk" "best" "LGraphNames$Leaf;" : Cond) := by decide +kernel
theorem w_307 : lw_tbl[307]? = some (.fieldLink "GraphNames$Search" (64) "GraphNames$Search" "best" "LGraphNames$Leaf;" : Cond) := by decide +kernel
theorem w_308 : lw_tbl[308]? = some (.sameField "GraphNames$Search" "GraphNames$Walk" "best" "LGraphNames$Leaf;" : Cond) := by decide +kernel
theorem w_309 : lw_tbl[309]? = some (.fieldLink "GraphNames" (196) "GraphNames$Tree" "best" "LGraphNames$Leaf;" : Cond) := by decide +kernel
theorem w_310 : lw_tbl[310]? = some (.fieldLink "GraphNames" (224) "GraphNames$Search" "best" "LGraphNames$Leaf;" : Cond) := by decide +kernel
theorem w_311 : lw_tbl[311]? = some (.fieldLink "GraphNames$Walk" (34) "GraphNames$Walk" "nodes" "I" : Cond) := by decide +kernel
theorem w_312 : lw_tbl[312]? = some (.fieldLink "GraphNames" (187) "GraphNames$Tree" "nodes" "I" : Cond) := by decide +kernel
theorem w_313 : lw_tbl[313]? = some (.sameField "GraphNames$Tree" "GraphNames$Walk" "nodes" "I" : Cond) := by decide +kernel
theorem w_314 : lw_tbl[314]? = some (.fieldLink "GraphNames" (210) "GraphNames$Search" "nodes" "I" : Cond) := by decide +kernel
theorem w_315 : lw_tbl[315]? = some (.sameField "GraphNames$Search" "GraphNames$Walk" "nodes" "I" : Cond) := by decide +kernel
theorem w_316 : lw_tbl[316]? = some (.fieldLink "GraphNames$Walk" (38) "GraphNames$Walk" "leafs" "I" : Cond) := by decide +kernel
theorem w_317 : lw_tbl[317]? = some (.fieldLink "GraphNames$Tree" (31) "GraphNames$Tree" "leafs" "I" : Cond) := by decide +kernel
theorem w_318 : lw_tbl[318]? = some (.sameField "GraphNames$Tree" "GraphNames$Walk" "leafs" "I" : Cond) := by decide +kernel
theorem w_319 : lw_tbl[319]? = some (.fieldLink "GraphNames$Search" (55) "GraphNames$Search" "leafs" "I" : Cond) := by decide +kernel
theorem w_320 : lw_tbl[320]? = some (.sameField "GraphNames$Search" "GraphNames$Walk" "leafs" "I" : Cond) := by decide +kernel
theorem w_321 : lw_tbl[321]? = some (.fieldLink "GraphNames" (190) "GraphNames$Tree" "leafs" "I" : Cond) := by decide +kernel
theorem w_322 : lw_tbl[322]? = some (.fieldLink "GraphNames" (211) "GraphNames$Search" "leafs" "I" : Cond) := by decide +kernel
theorem w_323 : lw_tbl[323]? = some (.fieldLink "GraphNames$Walk" (41) "GraphNames$Walk" "cut" "I" : Cond) := by decide +kernel
theorem w_324 : lw_tbl[324]? = some (.fieldLink "GraphNames" (212) "GraphNames$Search" "cut" "I" : Cond) := by decide +kernel
theorem w_325 : lw_tbl[325]? = some (.sameField "GraphNames$Search" "GraphNames$Walk" "cut" "I" : Cond) := by decide +kernel
theorem w_326 : lw_tbl[326]? = some (.fieldLink "GraphNames$Walk" (44) "GraphNames$Walk" "skipped" "I" : Cond) := by decide +kernel
theorem w_327 : lw_tbl[327]? = some (.fieldLink "GraphNames" (215) "GraphNames$Search" "skipped" "I" : Cond) := by decide +kernel
theorem w_328 : lw_tbl[328]? = some (.sameField "GraphNames$Search" "GraphNames$Walk" "skipped" "I" : Cond) := by decide +kernel
theorem w_329 : lw_tbl[329]? = some (.fieldLink "GraphNames$Walk" (47) "GraphNames$Walk" "seen" "Z" : Cond) := by decide +kernel
theorem w_360 : lw_tbl[360]? = some (.methodLinkNest "GraphNames" (85) (⟨"GraphNames$Tree", "<init>", "()V"⟩ : MethodName) "GraphNames" : Cond) := by decide +kernel
theorem w_361 : lw_tbl[361]? = some (.instanceMethod (⟨"GraphNames$Tree", "<init>", "()V"⟩ : MethodName) : Cond) := by decide +kernel
theorem w_362 : lw_tbl[362]? = some (.code (⟨"GraphNames$Tree", "<init>", "()V"⟩) prog_9_method_1_code 1 none : Cond) := by decide +kernel
theorem w_363 : lw_tbl[363]? = some (.methodLink "GraphNames$Tree" (1) (⟨"GraphNames$Walk", "<init>", "()V"⟩ : MethodName) : Cond) := by decide +kernel
theorem w_364 : lw_tbl[364]? = some (.fieldLink "GraphNames$Tree" (7) "GraphNames$Tree" "deepest" "I" : Cond) := by decide +kernel
theorem w_365 : lw_tbl[365]? = some (.fieldLink "GraphNames" (193) "GraphNames$Tree" "deepest" "I" : Cond) := by decide +kernel
theorem w_366 : lw_tbl[366]? = some (.fieldLink "GraphNames$Tree" (13) "GraphNames$Tree" "like" "I" : Cond) := by decide +kernel
theorem w_367 : lw_tbl[367]? = some (.fieldLink "GraphNames" (203) "GraphNames$Tree" "like" "I" : Cond) := by decide +kernel
theorem w_382 : lw_tbl[382]? = some (.methodLinkNest "GraphNames" (86) (⟨"GraphNames$Leaf", "<init>", "()V"⟩ : MethodName) "GraphNames" : Cond) := by decide +kernel
theorem w_383 : lw_tbl[383]? = some (.fieldLink "GraphNames" (11) "GraphNames" "graphs" "[LGraphNames$Graph;" : Cond) := by decide +kernel
theorem w_384 : lw_tbl[384]? = some (.fieldLink "GraphNames" (17) "GraphNames" "trees" "[LGraphNames$Tree;" : Cond) := by decide +kernel
theorem w_385 : lw_tbl[385]? = some (.fieldLink "GraphNames" (23) "GraphNames" "searches" "[LGraphNames$Search;" : Cond) := by decide +kernel
theorem w_386 : lw_tbl[386]? = some (.fieldLink "GraphNames" (30) "GraphNames" "reader" "LGraphNames$Reader;" : Cond) := by decide +kernel
theorem w_387 : lw_tbl[387]? = some (.fieldLink "GraphNames" (37) "GraphNames" "past" "LGraphNames$Past;" : Cond) := by decide +kernel
theorem w_388 : lw_tbl[388]? = some (.fieldLink "GraphNames" (41) "GraphNames" "images" "[LGraphNames$Graph;" : Cond) := by decide +kernel
theorem w_389 : lw_tbl[389]? = some (.fieldLink "GraphNames" (44) "GraphNames" "kept" "[Z" : Cond) := by decide +kernel
theorem w_390 : lw_tbl[390]? = some (.fieldLink "GraphNames" (51) "GraphNames" "cells" "LGraphNames$Cells;" : Cond) := by decide +kernel
theorem w_391 : lw_tbl[391]? = some (.fieldLink "GraphNames" (55) "GraphNames" "others" "LGraphNames$Cells;" : Cond) := by decide +kernel
theorem w_392 : lw_tbl[392]? = some (.fieldLink "GraphNames" (61) "GraphNames" "pairing" "LGraphNames$Pairing;" : Cond) := by decide +kernel
theorem w_393 : lw_tbl[393]? = some (.fieldLink "GraphNames" (66) "GraphNames" "made" "LGraphNames$Graph;" : Cond) := by decide +kernel
theorem w_394 : lw_tbl[394]? = some (.fieldLink "GraphNames" (71) "GraphNames" "cardSearch" "LGraphNames$Search;" : Cond) := by decide +kernel
theorem w_395 : lw_tbl[395]? = some (.fieldLink "GraphNames" (77) "GraphNames" "cardNames" "[LGraphNames$Leaf;" : Cond) := by decide +kernel
theorem w_396 : lw_tbl[396]? = some (.fieldLink "GraphNames" (81) "GraphNames" "trouble" "I" : Cond) := by decide +kernel
theorem w_426 : lw_tbl[426]? = some (.methodLink "GraphNamesLaw" (64) (⟨"GraphNames", "graph", "(II)I"⟩ : MethodName) : Cond) := by decide +kernel
theorem w_427 : lw_tbl[427]? = some (.instanceMethod (⟨"GraphNames", "graph", "(II)I"⟩ : MethodName) : Cond) := by decide +kernel
theorem w_428 : lw_tbl[428]? = some (.selects "GraphNames" (⟨"GraphNames", "graph", "(II)I"⟩ : MethodName) (⟨"GraphNames", "graph", "(II)I"⟩ : MethodName) : Cond) := by decide +kernel
theorem w_429 : lw_tbl[429]? = some (.code (⟨"GraphNames", "graph", "(II)I"⟩) prog_1_method_6_code 4 (some .int) : Cond) := by decide +kernel
theorem w_430 : lw_tbl[430]? = some (.methodLink "GraphNames" (94) (⟨"GraphNames", "at", "(I)LGraphNames$Graph;"⟩ : MethodName) : Cond) := by decide +kernel
theorem w_432 : lw_tbl[432]? = some (.instanceMethod (⟨"GraphNames", "at", "(I)LGraphNames$Graph;"⟩ : MethodName) : Cond) := by decide +kernel
theorem w_433 : lw_tbl[433]? = some (.code (⟨"GraphNames", "at", "(I)LGraphNames$Graph;"⟩) prog_1_method_46_code 2 (some (.object "GraphNames$Graph")) : Cond) := by decide +kernel
theorem w_434 : lw_tbl[434]? = some (.methodLink "GraphNames" (98) (⟨"GraphNames", "refused", "(I)I"⟩ : MethodName) : Cond) := by decide +kernel
theorem w_436 : lw_tbl[436]? = some (.instanceMethod (⟨"GraphNames", "refused", "(I)I"⟩ : MethodName) : Cond) := by decide +kernel
theorem w_437 : lw_tbl[437]? = some (.code (⟨"GraphNames", "refused", "(I)I"⟩) prog_1_method_44_code 2 (some .int) : Cond) := by decide +kernel
theorem w_438 : lw_tbl[438]? = some (.methodLink "GraphNames" (122) (⟨"GraphNames", "answered", "(I)I"⟩ : MethodName) : Cond) := by decide +kernel
theorem w_440 : lw_tbl[440]? = some (.instanceMethod (⟨"GraphNames", "answered", "(I)I"⟩ : MethodName) : Cond) := by decide +kernel
theorem w_441 : lw_tbl[441]? = some (.code (⟨"GraphNames", "answered", "(I)I"⟩) prog_1_method_45_code 2 (some .int) : Cond) := by decide +kernel
theorem w_442 : lw_tbl[442]? = some (.methodLink "GraphNames" (128) (⟨"GraphNames$Graph", "links", "()I"⟩ : MethodName) : Cond) := by decide +kernel
theorem w_443 : lw_tbl[443]? = some (.instanceMethod (⟨"GraphNames$Graph", "links", "()I"⟩ : MethodName) : Cond) := by decide +kernel
theorem w_444 : lw_tbl[444]? = some (.selects "GraphNames$Graph" (⟨"GraphNames$Graph", "links", "()I"⟩ : MethodName) (⟨"GraphNames$Graph", "links", "()I"⟩ : MethodName) : Cond) := by decide +kernel
theorem w_445 : lw_tbl[445]? = some (.code (⟨"GraphNames$Graph", "links", "()I"⟩) prog_3_method_4_code 3 (some .int) : Cond) := by decide +kernel
theorem w_446 : lw_tbl[446]? = some (.methodLink "GraphNames$Graph" (27) (⟨"java/lang/Integer", "bitCount", "(I)I"⟩ : MethodName) : Cond) := by decide +kernel
theorem w_447 : lw_tbl[447]? = some (.static (⟨"java/lang/Integer", "bitCount", "(I)I"⟩ : MethodName) : Cond) := by decide +kernel
theorem w_448 : lw_tbl[448]? = some (.code (⟨"java/lang/Integer", "bitCount", "(I)I"⟩) prog_21_method_49_code 1 (some .int) : Cond) := by decide +kernel
theorem w_449 : lw_tbl[449]? = some (.constant "java/lang/Integer" 265 (1431655765) : Cond) := by decide +kernel
theorem w_450 : lw_tbl[450]? = some (.constant "java/lang/Integer" 266 (858993459) : Cond) := by decide +kernel
theorem w_451 : lw_tbl[451]? = some (.constant "java/lang/Integer" 267 (252645135) : Cond) := by decide +kernel
theorem w_452 : lw_tbl[452]? = some (.methodLink "GraphNames" (132) (⟨"GraphNames$Cells", "byColours", "(LGraphNames$Graph;)V"⟩ : MethodName) : Cond) := by decide +kernel
theorem w_453 : lw_tbl[453]? = some (.instanceMethod (⟨"GraphNames$Cells", "byColours", "(LGraphNames$Graph;)V"⟩ : MethodName) : Cond) := by decide +kernel
theorem w_454 : lw_tbl[454]? = some (.selects "GraphNames$Cells" (⟨"GraphNames$Cells", "byColours", "(LGraphNames$Graph;)V"⟩ : MethodName) (⟨"GraphNames$Cells", "byColours", "(LGraphNames$Graph;)V"⟩ : MethodName) : Cond) := by decide +kernel
theorem w_455 : lw_tbl[455]? = some (.code (⟨"GraphNames$Cells", "byColours", "(LGraphNames$Graph;)V"⟩) prog_2_method_3_code 5 none : Cond) := by decide +kernel
theorem w_456 : lw_tbl[456]? = some (.methodLink "GraphNames" (136) (⟨"GraphNames$Graph", "mostLinks", "()I"⟩ : MethodName) : Cond) := by decide +kernel
theorem w_457 : lw_tbl[457]? = some (.instanceMethod (⟨"GraphNames$Graph", "mostLinks", "()I"⟩ : MethodName) : Cond) := by decide +kernel
theorem w_458 : lw_tbl[458]? = some (.selects "GraphNames$Graph" (⟨"GraphNames$Graph", "mostLinks", "()I"⟩ : MethodName) (⟨"GraphNames$Graph", "mostLinks", "()I"⟩ : MethodName) : Cond) := by decide +kernel
theorem w_459 : lw_tbl[459]? = some (.code (⟨"GraphNames$Graph", "mostLinks", "()I"⟩) prog_3_method_5_code 3 (some .int) : Cond) := by decide +kernel
theorem w_460 : lw_tbl[460]? = some (.methodLink "GraphNames$Graph" (33) (⟨"java/lang/Math", "max", "(II)I"⟩ : MethodName) : Cond) := by decide +kernel
theorem w_461 : lw_tbl[461]? = some (.static (⟨"java/lang/Math", "max", "(II)I"⟩ : MethodName) : Cond) := by decide +kernel
theorem w_462 : lw_tbl[462]? = some (.code (⟨"java/lang/Math", "max", "(II)I"⟩) prog_22_method_65_code 2 (some .int) : Cond) := by decide +kernel
theorem w_463 : lw_tbl[463]? = some (.methodLink "GraphNamesLaw" (83) (⟨"GraphNames", "colour", "(II)I"⟩ : MethodName) : Cond) := by decide +kernel
theorem w_464 : lw_tbl[464]? = some (.instanceMethod (⟨"GraphNames", "colour", "(II)I"⟩ : MethodName) : Cond) := by decide +kernel
theorem w_465 : lw_tbl[465]? = some (.selects "GraphNames" (⟨"GraphNames", "colour", "(II)I"⟩ : MethodName) (⟨"GraphNames", "colour", "(II)I"⟩ : MethodName) : Cond) := by decide +kernel
theorem w_466 : lw_tbl[466]? = some (.code (⟨"GraphNames", "colour", "(II)I"⟩) prog_1_method_7_code 4 (some .int) : Cond) := by decide +kernel
theorem w_467 : lw_tbl[467]? = some (.methodLink "GraphNames" (139) (⟨"GraphNames$Graph", "has", "(I)Z"⟩ : MethodName) : Cond) := by decide +kernel
theorem w_468 : lw_tbl[468]? = some (.instanceMethod (⟨"GraphNames$Graph", "has", "(I)Z"⟩ : MethodName) : Cond) := by decide +kernel
theorem w_469 : lw_tbl[469]? = some (.selects "GraphNames$Graph" (⟨"GraphNames$Graph", "has", "(I)Z"⟩ : MethodName) (⟨"GraphNames$Graph", "has", "(I)Z"⟩ : MethodName) : Cond) := by decide +kernel
theorem w_470 : lw_tbl[470]? = some (.code (⟨"GraphNames$Graph", "has", "(I)Z"⟩) prog_3_method_2_code 2 (some .boolean) : Cond) := by decide +kernel
theorem w_471 : lw_tbl[471]? = some (.methodLink "GraphNamesLaw" (67) (⟨"GraphNames", "kind", "(III)I"⟩ : MethodName) : Cond) := by decide +kernel
theorem w_472 : lw_tbl[472]? = some (.instanceMethod (⟨"GraphNames", "kind", "(III)I"⟩ : MethodName) : Cond) := by decide +kernel
theorem w_473 : lw_tbl[473]? = some (.selects "GraphNames" (⟨"GraphNames", "kind", "(III)I"⟩ : MethodName) (⟨"GraphNames", "kind", "(III)I"⟩ : MethodName) : Cond) := by decide +kernel
theorem w_474 : lw_tbl[474]? = some (.code (⟨"GraphNames", "kind", "(III)I"⟩) prog_1_method_8_code 5 (some .int) : Cond) := by decide +kernel
theorem w_475 : lw_tbl[475]? = some (.methodLink "GraphNamesLaw" (124) (⟨"GraphNames", "degree", "(III)I"⟩ : MethodName) : Cond) := by decide +kernel
theorem w_476 : lw_tbl[476]? = some (.instanceMethod (⟨"GraphNames", "degree", "(III)I"⟩ : MethodName) : Cond) := by decide +kernel
theorem w_477 : lw_tbl[477]? = some (.selects "GraphNames" (⟨"GraphNames", "degree", "(III)I"⟩ : MethodName) (⟨"GraphNames", "degree", "(III)I"⟩ : MethodName) : Cond) := by decide +kernel
theorem w_478 : lw_tbl[478]? = some (.code (⟨"GraphNames", "degree", "(III)I"⟩) prog_1_method_9_code 5 (some .int) : Cond) := by decide +kernel
theorem w_479 : lw_tbl[479]? = some (.methodLink "GraphNames" (154) (⟨"java/lang/Integer", "bitCount", "(I)I"⟩ : MethodName) : Cond) := by decide +kernel
theorem w_480 : lw_tbl[480]? = some (.methodLink "GraphNamesLaw" (166) (⟨"GraphNames", "tree", "(II)I"⟩ : MethodName) : Cond) := by decide +kernel
theorem w_481 : lw_tbl[481]? = some (.instanceMethod (⟨"GraphNames", "tree", "(II)I"⟩ : MethodName) : Cond) := by decide +kernel
theorem w_482 : lw_tbl[482]? = some (.selects "GraphNames" (⟨"GraphNames", "tree", "(II)I"⟩ : MethodName) (⟨"GraphNames", "tree", "(II)I"⟩ : MethodName) : Cond) := by decide +kernel
theorem w_483 : lw_tbl[483]? = some (.code (⟨"GraphNames", "tree", "(II)I"⟩) prog_1_method_13_code 5 (some .int) : Cond) := by decide +kernel
theorem w_484 : lw_tbl[484]? = some (.methodLink "GraphNames" (184) (⟨"GraphNames$Tree", "look", "(LGraphNames$Graph;)V"⟩ : MethodName) : Cond) := by decide +kernel
theorem w_485 : lw_tbl[485]? = some (.sameMethod "GraphNames$Tree" "GraphNames$Walk" "look" "(LGraphNames$Graph;)V" : Cond) := by decide +kernel
theorem w_487 : lw_tbl[487]? = some (.selects "GraphNames$Tree" (⟨"GraphNames$Tree", "look", "(LGraphNames$Graph;)V"⟩ : MethodName) (⟨"GraphNames$Walk", "look", "(LGraphNames$Graph;)V"⟩ : MethodName) : Cond) := by decide +kernel
theorem w_488 : lw_tbl[488]? = some (.instanceMethod (⟨"GraphNames$Walk", "look", "(LGraphNames$Graph;)V"⟩ : MethodName) : Cond) := by decide +kernel
theorem w_489 : lw_tbl[489]? = some (.code (⟨"GraphNames$Walk", "look", "(LGraphNames$Graph;)V"⟩) prog_10_method_6_code 2 none : Cond) := by decide +kernel
theorem w_490 : lw_tbl[490]? = some (.methodLink "GraphNames$Walk" (52) (⟨"GraphNames$Graph", "same", "(LGraphNames$Graph;)Z"⟩ : MethodName) : Cond) := by decide +kernel
theorem w_491 : lw_tbl[491]? = some (.instanceMethod (⟨"GraphNames$Graph", "same", "(LGraphNames$Graph;)Z"⟩ : MethodName) : Cond) := by decide +kernel
theorem w_492 : lw_tbl[492]? = some (.selects "GraphNames$Graph" (⟨"GraphNames$Graph", "same", "(LGraphNames$Graph;)Z"⟩ : MethodName) (⟨"GraphNames$Graph", "same", "(LGraphNames$Graph;)Z"⟩ : MethodName) : Cond) := by decide +kernel
theorem w_493 : lw_tbl[493]? = some (.code (⟨"GraphNames$Graph", "same", "(LGraphNames$Graph;)Z"⟩) prog_3_method_14_code 4 (some .boolean) : Cond) := by decide +kernel
theorem w_494 : lw_tbl[494]? = some (.methodLink "GraphNames$Walk" (56) (⟨"GraphNames$Graph", "take", "(LGraphNames$Graph;)V"⟩ : MethodName) : Cond) := by decide +kernel
theorem w_495 : lw_tbl[495]? = some (.instanceMethod (⟨"GraphNames$Graph", "take", "(LGraphNames$Graph;)V"⟩ : MethodName) : Cond) := by decide +kernel
theorem w_496 : lw_tbl[496]? = some (.selects "GraphNames$Graph" (⟨"GraphNames$Graph", "take", "(LGraphNames$Graph;)V"⟩ : MethodName) (⟨"GraphNames$Graph", "take", "(LGraphNames$Graph;)V"⟩ : MethodName) : Cond) := by decide +kernel
theorem w_497 : lw_tbl[497]? = some (.code (⟨"GraphNames$Graph", "take", "(LGraphNames$Graph;)V"⟩) prog_3_method_13_code 3 none : Cond) := by decide +kernel
theorem w_501 : lw_tbl[501]? = some (.methodLink "GraphNames$Walk" (60) (⟨"GraphNames$Walk", "forget", "()V"⟩ : MethodName) : Cond) := by decide +kernel
theorem w_502 : lw_tbl[502]? = some (.declares (⟨"GraphNames$Walk", "forget", "()V"⟩ : MethodName) : Cond) := by decide +kernel
theorem w_503 : lw_tbl[503]? = some (.sameMethod "GraphNames$Walk" "GraphNames$Walk" "forget" "()V" : Cond) := by decide +kernel
theorem w_504 : lw_tbl[504]? = some (.selects "GraphNames$Search" (⟨"GraphNames$Walk", "forget", "()V"⟩ : MethodName) (⟨"GraphNames$Search", "forget", "()V"⟩ : MethodName) : Cond) := by decide +kernel
theorem w_505 : lw_tbl[505]? = some (.instanceMethod (⟨"GraphNames$Search", "forget", "()V"⟩ : MethodName) : Cond) := by decide +kernel
theorem w_506 : lw_tbl[506]? = some (.code (⟨"GraphNames$Search", "forget", "()V"⟩) prog_8_method_2_code 1 none : Cond) := by decide +kernel
theorem w_507 : lw_tbl[507]? = some (.selects "GraphNames$Tree" (⟨"GraphNames$Walk", "forget", "()V"⟩ : MethodName) (⟨"GraphNames$Tree", "forget", "()V"⟩ : MethodName) : Cond) := by decide +kernel
theorem w_508 : lw_tbl[508]? = some (.instanceMethod (⟨"GraphNames$Tree", "forget", "()V"⟩ : MethodName) : Cond) := by decide +kernel
theorem w_509 : lw_tbl[509]? = some (.code (⟨"GraphNames$Tree", "forget", "()V"⟩) prog_9_method_2_code 1 none : Cond) := by decide +kernel
theorem w_510 : lw_tbl[510]? = some (.methodLink "GraphNames$Walk" (63) (⟨"GraphNames$Cells", "begin", "(LGraphNames$Graph;)V"⟩ : MethodName) : Cond) := by decide +kernel
theorem w_511 : lw_tbl[511]? = some (.instanceMethod (⟨"GraphNames$Cells", "begin", "(LGraphNames$Graph;)V"⟩ : MethodName) : Cond) := by decide +kernel
theorem w_512 : lw_tbl[512]? = some (.selects "GraphNames$Cells" (⟨"GraphNames$Cells", "begin", "(LGraphNames$Graph;)V"⟩ : MethodName) (⟨"GraphNames$Cells", "begin", "(LGraphNames$Graph;)V"⟩ : MethodName) : Cond) := by decide +kernel
theorem w_513 : lw_tbl[513]? = some (.code (⟨"GraphNames$Cells", "begin", "(LGraphNames$Graph;)V"⟩) prog_2_method_2_code 2 none : Cond) := by decide +kernel
theorem w_514 : lw_tbl[514]? = some (.methodLink "GraphNames$Cells" (35) (⟨"GraphNames$Cells", "byColours", "(LGraphNames$Graph;)V"⟩ : MethodName) : Cond) := by decide +kernel
theorem w_515 : lw_tbl[515]? = some (.methodLink "GraphNames$Cells" (39) (⟨"GraphNames$Cells", "refine", "(LGraphNames$Graph;)V"⟩ : MethodName) : Cond) := by decide +kernel
theorem w_516 : lw_tbl[516]? = some (.instanceMethod (⟨"GraphNames$Cells", "refine", "(LGraphNames$Graph;)V"⟩ : MethodName) : Cond) := by decide +kernel
theorem w_517 : lw_tbl[517]? = some (.selects "GraphNames$Cells" (⟨"GraphNames$Cells", "refine", "(LGraphNames$Graph;)V"⟩ : MethodName) (⟨"GraphNames$Cells", "refine", "(LGraphNames$Graph;)V"⟩ : MethodName) : Cond) := by decide +kernel
theorem w_518 : lw_tbl[518]? = some (.code (⟨"GraphNames$Cells", "refine", "(LGraphNames$Graph;)V"⟩) prog_2_method_4_code 2 none : Cond) := by decide +kernel
theorem w_519 : lw_tbl[519]? = some (.methodLink "GraphNames$Cells" (48) (⟨"GraphNames$Cells", "divide", "(LGraphNames$Graph;)Z"⟩ : MethodName) : Cond) := by decide +kernel
theorem w_520 : lw_tbl[520]? = some (.instanceMethod (⟨"GraphNames$Cells", "divide", "(LGraphNames$Graph;)Z"⟩ : MethodName) : Cond) := by decide +kernel
theorem w_521 : lw_tbl[521]? = some (.selects "GraphNames$Cells" (⟨"GraphNames$Cells", "divide", "(LGraphNames$Graph;)Z"⟩ : MethodName) (⟨"GraphNames$Cells", "divide", "(LGraphNames$Graph;)Z"⟩ : MethodName) : Cond) := by decide +kernel
theorem w_522 : lw_tbl[522]? = some (.code (⟨"GraphNames$Cells", "divide", "(LGraphNames$Graph;)Z"⟩) prog_2_method_5_code 3 (some .boolean) : Cond) := by decide +kernel
theorem w_523 : lw_tbl[523]? = some (.methodLink "GraphNames$Cells" (52) (⟨"GraphNames$Cells", "signOf", "(LGraphNames$Graph;I)J"⟩ : MethodName) : Cond) := by decide +kernel
theorem w_525 : lw_tbl[525]? = some (.instanceMethod (⟨"GraphNames$Cells", "signOf", "(LGraphNames$Graph;I)J"⟩ : MethodName) : Cond) := by decide +kernel
theorem w_526 : lw_tbl[526]? = some (.code (⟨"GraphNames$Cells", "signOf", "(LGraphNames$Graph;I)J"⟩) prog_2_method_6_code 7 (some .long) : Cond) := by decide +kernel
theorem w_527 : lw_tbl[527]? = some (.methodLink "GraphNames$Cells" (70) (⟨"java/lang/Integer", "bitCount", "(I)I"⟩ : MethodName) : Cond) := by decide +kernel
theorem w_528 : lw_tbl[528]? = some (.methodLink "GraphNames$Cells" (56) (⟨"GraphNames$Cells", "split", "(I)V"⟩ : MethodName) : Cond) := by decide +kernel
theorem w_530 : lw_tbl[530]? = some (.instanceMethod (⟨"GraphNames$Cells", "split", "(I)V"⟩ : MethodName) : Cond) := by decide +kernel
theorem w_531 : lw_tbl[531]? = some (.code (⟨"GraphNames$Cells", "split", "(I)V"⟩) prog_2_method_7_code 7 none : Cond) := by decide +kernel
theorem w_532 : lw_tbl[532]? = some (.constantLong "GraphNames$Cells" 76 (9223372036854775807) : Cond) := by decide +kernel
theorem w_534 : lw_tbl[534]? = some (.methodLink "GraphNames$Walk" (70) (⟨"GraphNames$Cells", "mark", "()I"⟩ : MethodName) : Cond) := by decide +kernel
theorem w_535 : lw_tbl[535]? = some (.instanceMethod (⟨"GraphNames$Cells", "mark", "()I"⟩ : MethodName) : Cond) := by decide +kernel
theorem w_536 : lw_tbl[536]? = some (.selects "GraphNames$Cells" (⟨"GraphNames$Cells", "mark", "()I"⟩ : MethodName) (⟨"GraphNames$Cells", "mark", "()I"⟩ : MethodName) : Cond) := by decide +kernel
theorem w_537 : lw_tbl[537]? = some (.code (⟨"GraphNames$Cells", "mark", "()I"⟩) prog_2_method_10_code 3 (some .int) : Cond) := by decide +kernel
theorem w_541 : lw_tbl[541]? = some (.code (⟨"GraphNames$Walk", "come", "(II)V"⟩) prog_10_method_7_code 7 none : Cond) := by decide +kernel
theorem w_542 : lw_tbl[542]? = some (.methodLink "GraphNames$Walk" (78) (⟨"GraphNames$Cells", "target", "()I"⟩ : MethodName) : Cond) := by decide +kernel
theorem w_543 : lw_tbl[543]? = some (.instanceMethod (⟨"GraphNames$Cells", "target", "()I"⟩ : MethodName) : Cond) := by decide +kernel
theorem w_544 : lw_tbl[544]? = some (.selects "GraphNames$Cells" (⟨"GraphNames$Cells", "target", "()I"⟩ : MethodName) (⟨"GraphNames$Cells", "target", "()I"⟩ : MethodName) : Cond) := by decide +kernel
theorem w_545 : lw_tbl[545]? = some (.code (⟨"GraphNames$Cells", "target", "()I"⟩) prog_2_method_9_code 4 (some .int) : Cond) := by decide +kernel
theorem w_546 : lw_tbl[546]? = some (.methodLink "GraphNames$Walk" (81) (⟨"GraphNames$Leaf", "write", "(LGraphNames$Graph;LGraphNames$Cells;I)V"⟩ : MethodName) : Cond) := by decide +kernel
theorem w_547 : lw_tbl[547]? = some (.instanceMethod (⟨"GraphNames$Leaf", "write", "(LGraphNames$Graph;LGraphNames$Cells;I)V"⟩ : MethodName) : Cond) := by decide +kernel
theorem w_548 : lw_tbl[548]? = some (.selects "GraphNames$Leaf" (⟨"GraphNames$Leaf", "write", "(LGraphNames$Graph;LGraphNames$Cells;I)V"⟩ : MethodName) (⟨"GraphNames$Leaf", "write", "(LGraphNames$Graph;LGraphNames$Cells;I)V"⟩ : MethodName) : Cond) := by decide +kernel
theorem w_549 : lw_tbl[549]? = some (.code (⟨"GraphNames$Leaf", "write", "(LGraphNames$Graph;LGraphNames$Cells;I)V"⟩) prog_4_method_2_code 6 none : Cond) := by decide +kernel
theorem w_550 : lw_tbl[550]? = some (.methodLink "GraphNames$Leaf" (38) (⟨"java/lang/Integer", "numberOfTrailingZeros", "(I)I"⟩ : MethodName) : Cond) := by decide +kernel
theorem w_551 : lw_tbl[551]? = some (.static (⟨"java/lang/Integer", "numberOfTrailingZeros", "(I)I"⟩ : MethodName) : Cond) := by decide +kernel
theorem w_552 : lw_tbl[552]? = some (.code (⟨"java/lang/Integer", "numberOfTrailingZeros", "(I)I"⟩) prog_21_method_48_code 2 (some .int) : Cond) := by decide +kernel
theorem w_553 : lw_tbl[553]? = some (.constant "java/lang/Integer" 264 (65536) : Cond) := by decide +kernel
theorem w_554 : lw_tbl[554]? = some (.methodLink "GraphNames$Walk" (85) (⟨"GraphNames$Walk", "reach", "()V"⟩ : MethodName) : Cond) := by decide +kernel
theorem w_555 : lw_tbl[555]? = some (.declares (⟨"GraphNames$Walk", "reach", "()V"⟩ : MethodName) : Cond) := by decide +kernel
theorem w_556 : lw_tbl[556]? = some (.sameMethod "GraphNames$Walk" "GraphNames$Walk" "reach" "()V" : Cond) := by decide +kernel
theorem w_557 : lw_tbl[557]? = some (.selects "GraphNames$Search" (⟨"GraphNames$Walk", "reach", "()V"⟩ : MethodName) (⟨"GraphNames$Search", "reach", "()V"⟩ : MethodName) : Cond) := by decide +kernel
theorem w_558 : lw_tbl[558]? = some (.instanceMethod (⟨"GraphNames$Search", "reach", "()V"⟩ : MethodName) : Cond) := by decide +kernel
theorem w_559 : lw_tbl[559]? = some (.code (⟨"GraphNames$Search", "reach", "()V"⟩) prog_8_method_8_code 2 none : Cond) := by decide +kernel
theorem w_560 : lw_tbl[560]? = some (.methodLink "GraphNames$Search" (67) (⟨"GraphNames$Leaf", "take", "(LGraphNames$Leaf;)V"⟩ : MethodName) : Cond) := by decide +kernel
theorem w_561 : lw_tbl[561]? = some (.instanceMethod (⟨"GraphNames$Leaf", "take", "(LGraphNames$Leaf;)V"⟩ : MethodName) : Cond) := by decide +kernel
theorem w_562 : lw_tbl[562]? = some (.selects "GraphNames$Leaf" (⟨"GraphNames$Leaf", "take", "(LGraphNames$Leaf;)V"⟩ : MethodName) (⟨"GraphNames$Leaf", "take", "(LGraphNames$Leaf;)V"⟩ : MethodName) : Cond) := by decide +kernel
theorem w_563 : lw_tbl[563]? = some (.code (⟨"GraphNames$Leaf", "take", "(LGraphNames$Leaf;)V"⟩) prog_4_method_5_code 2 none : Cond) := by decide +kernel
theorem w_565 : lw_tbl[565]? = some (.methodLink "GraphNames$Search" (71) (⟨"GraphNames$Leaf", "compare", "(LGraphNames$Leaf;)I"⟩ : MethodName) : Cond) := by decide +kernel
theorem w_566 : lw_tbl[566]? = some (.instanceMethod (⟨"GraphNames$Leaf", "compare", "(LGraphNames$Leaf;)I"⟩ : MethodName) : Cond) := by decide +kernel
theorem w_567 : lw_tbl[567]? = some (.selects "GraphNames$Leaf" (⟨"GraphNames$Leaf", "compare", "(LGraphNames$Leaf;)I"⟩ : MethodName) (⟨"GraphNames$Leaf", "compare", "(LGraphNames$Leaf;)I"⟩ : MethodName) : Cond) := by decide +kernel
theorem w_568 : lw_tbl[568]? = some (.code (⟨"GraphNames$Leaf", "compare", "(LGraphNames$Leaf;)I"⟩) prog_4_method_3_code 4 (some .int) : Cond) := by decide +kernel
theorem w_569 : lw_tbl[569]? = some (.methodLink "GraphNames$Leaf" (51) (⟨"java/lang/Math", "min", "(II)I"⟩ : MethodName) : Cond) := by decide +kernel
theorem w_570 : lw_tbl[570]? = some (.static (⟨"java/lang/Math", "min", "(II)I"⟩ : MethodName) : Cond) := by decide +kernel
theorem w_571 : lw_tbl[571]? = some (.code (⟨"java/lang/Math", "min", "(II)I"⟩) prog_22_method_69_code 2 (some .int) : Cond) := by decide +kernel
theorem w_572 : lw_tbl[572]? = some (.methodLink "GraphNames$Leaf" (57) (⟨"java/lang/Integer", "compare", "(II)I"⟩ : MethodName) : Cond) := by decide +kernel
theorem w_573 : lw_tbl[573]? = some (.static (⟨"java/lang/Integer", "compare", "(II)I"⟩ : MethodName) : Cond) := by decide +kernel
theorem w_574 : lw_tbl[574]? = some (.code (⟨"java/lang/Integer", "compare", "(II)I"⟩) prog_21_method_40_code 2 (some .int) : Cond) := by decide +kernel
theorem w_575 : lw_tbl[575]? = some (.methodLink "GraphNames$Leaf" (60) (⟨"GraphNames$Leaf", "compareCodes", "(LGraphNames$Leaf;)I"⟩ : MethodName) : Cond) := by decide +kernel
theorem w_576 : lw_tbl[576]? = some (.instanceMethod (⟨"GraphNames$Leaf", "compareCodes", "(LGraphNames$Leaf;)I"⟩ : MethodName) : Cond) := by decide +kernel
theorem w_577 : lw_tbl[577]? = some (.selects "GraphNames$Leaf" (⟨"GraphNames$Leaf", "compareCodes", "(LGraphNames$Leaf;)I"⟩ : MethodName) (⟨"GraphNames$Leaf", "compareCodes", "(LGraphNames$Leaf;)I"⟩ : MethodName) : Cond) := by decide +kernel
theorem w_578 : lw_tbl[578]? = some (.code (⟨"GraphNames$Leaf", "compareCodes", "(LGraphNames$Leaf;)I"⟩) prog_4_method_4_code 3 (some .int) : Cond) := by decide +kernel
theorem w_579 : lw_tbl[579]? = some (.methodLink "GraphNames$Search" (75) (⟨"GraphNames$Search", "note", "(LGraphNames$Leaf;)V"⟩ : MethodName) : Cond) := by decide +kernel
theorem w_581 : lw_tbl[581]? = some (.instanceMethod (⟨"GraphNames$Search", "note", "(LGraphNames$Leaf;)V"⟩ : MethodName) : Cond) := by decide +kernel
theorem w_582 : lw_tbl[582]? = some (.code (⟨"GraphNames$Search", "note", "(LGraphNames$Leaf;)V"⟩) prog_8_method_9_code 4 none : Cond) := by decide +kernel
theorem w_583 : lw_tbl[583]? = some (.selects "GraphNames$Tree" (⟨"GraphNames$Walk", "reach", "()V"⟩ : MethodName) (⟨"GraphNames$Tree", "reach", "()V"⟩ : MethodName) : Cond) := by decide +kernel
theorem w_584 : lw_tbl[584]? = some (.instanceMethod (⟨"GraphNames$Tree", "reach", "()V"⟩ : MethodName) : Cond) := by decide +kernel
theorem w_585 : lw_tbl[585]? = some (.code (⟨"GraphNames$Tree", "reach", "()V"⟩) prog_9_method_5_code 2 none : Cond) := by decide +kernel
theorem w_586 : lw_tbl[586]? = some (.methodLink "GraphNames$Tree" (25) (⟨"java/lang/Math", "max", "(II)I"⟩ : MethodName) : Cond) := by decide +kernel
theorem w_587 : lw_tbl[587]? = some (.methodLink "GraphNames$Tree" (37) (⟨"GraphNames$Leaf", "compare", "(LGraphNames$Leaf;)I"⟩ : MethodName) : Cond) := by decide +kernel
theorem w_588 : lw_tbl[588]? = some (.methodLink "GraphNames$Tree" (41) (⟨"GraphNames$Leaf", "take", "(LGraphNames$Leaf;)V"⟩ : MethodName) : Cond) := by decide +kernel
theorem w_589 : lw_tbl[589]? = some (.methodLinkNest "GraphNames$Walk" (91) (⟨"GraphNames", "in", "(II)Z"⟩ : MethodName) "GraphNames" : Cond) := by decide +kernel
theorem w_590 : lw_tbl[590]? = some (.static (⟨"GraphNames", "in", "(II)Z"⟩ : MethodName) : Cond) := by decide +kernel
theorem w_591 : lw_tbl[591]? = some (.code (⟨"GraphNames", "in", "(II)Z"⟩) prog_1_method_54_code 2 (some .boolean) : Cond) := by decide +kernel
theorem w_592 : lw_tbl[592]? = some (.methodLink "GraphNames$Walk" (95) (⟨"GraphNames$Walk", "skips", "(III)Z"⟩ : MethodName) : Cond) := by decide +kernel
theorem w_593 : lw_tbl[593]? = some (.declares (⟨"GraphNames$Walk", "skips", "(III)Z"⟩ : MethodName) : Cond) := by decide +kernel
theorem w_594 : lw_tbl[594]? = some (.sameMethod "GraphNames$Walk" "GraphNames$Walk" "skips" "(III)Z" : Cond) := by decide +kernel
theorem w_595 : lw_tbl[595]? = some (.selects "GraphNames$Search" (⟨"GraphNames$Walk", "skips", "(III)Z"⟩ : MethodName) (⟨"GraphNames$Search", "skips", "(III)Z"⟩ : MethodName) : Cond) := by decide +kernel
theorem w_596 : lw_tbl[596]? = some (.instanceMethod (⟨"GraphNames$Search", "skips", "(III)Z"⟩ : MethodName) : Cond) := by decide +kernel
theorem w_597 : lw_tbl[597]? = some (.code (⟨"GraphNames$Search", "skips", "(III)Z"⟩) prog_8_method_3_code 4 (some .boolean) : Cond) := by decide +kernel
theorem w_598 : lw_tbl[598]? = some (.methodLink "GraphNames$Search" (29) (⟨"GraphNames$Search", "spread", "(II)I"⟩ : MethodName) : Cond) := by decide +kernel
theorem w_600 : lw_tbl[600]? = some (.instanceMethod (⟨"GraphNames$Search", "spread", "(II)I"⟩ : MethodName) : Cond) := by decide +kernel
theorem w_601 : lw_tbl[601]? = some (.code (⟨"GraphNames$Search", "spread", "(II)I"⟩) prog_8_method_4_code 7 (some .int) : Cond) := by decide +kernel
theorem w_602 : lw_tbl[602]? = some (.methodLink "GraphNames$Search" (37) (⟨"GraphNames$Search", "leavesAlone", "(II)Z"⟩ : MethodName) : Cond) := by decide +kernel
theorem w_604 : lw_tbl[604]? = some (.instanceMethod (⟨"GraphNames$Search", "leavesAlone", "(II)Z"⟩ : MethodName) : Cond) := by decide +kernel
theorem w_605 : lw_tbl[605]? = some (.code (⟨"GraphNames$Search", "leavesAlone", "(II)Z"⟩) prog_8_method_5_code 4 (some .boolean) : Cond) := by decide +kernel
theorem w_606 : lw_tbl[606]? = some (.methodLinkNest "GraphNames$Search" (33) (⟨"GraphNames", "in", "(II)Z"⟩ : MethodName) "GraphNames" : Cond) := by decide +kernel
theorem w_607 : lw_tbl[607]? = some (.methodLinkNest "GraphNames$Search" (52) (⟨"GraphNames", "sentTo", "(II)I"⟩ : MethodName) "GraphNames" : Cond) := by decide +kernel
theorem w_608 : lw_tbl[608]? = some (.static (⟨"GraphNames", "sentTo", "(II)I"⟩ : MethodName) : Cond) := by decide +kernel
theorem w_609 : lw_tbl[609]? = some (.code (⟨"GraphNames", "sentTo", "(II)I"⟩) prog_1_method_55_code 2 (some .int) : Cond) := by decide +kernel
theorem w_610 : lw_tbl[610]? = some (.methodLink "GraphNames$Search" (40) (⟨"GraphNames$Search", "imageOf", "(II)I"⟩ : MethodName) : Cond) := by decide +kernel
theorem w_612 : lw_tbl[612]? = some (.instanceMethod (⟨"GraphNames$Search", "imageOf", "(II)I"⟩ : MethodName) : Cond) := by decide +kernel
theorem w_613 : lw_tbl[613]? = some (.code (⟨"GraphNames$Search", "imageOf", "(II)I"⟩) prog_8_method_6_code 5 (some .int) : Cond) := by decide +kernel
theorem w_614 : lw_tbl[614]? = some (.selects "GraphNames$Tree" (⟨"GraphNames$Walk", "skips", "(III)Z"⟩ : MethodName) (⟨"GraphNames$Tree", "skips", "(III)Z"⟩ : MethodName) : Cond) := by decide +kernel
theorem w_615 : lw_tbl[615]? = some (.instanceMethod (⟨"GraphNames$Tree", "skips", "(III)Z"⟩ : MethodName) : Cond) := by decide +kernel
theorem w_616 : lw_tbl[616]? = some (.code (⟨"GraphNames$Tree", "skips", "(III)Z"⟩) prog_9_method_3_code 4 (some .boolean) : Cond) := by decide +kernel
theorem w_617 : lw_tbl[617]? = some (.methodLink "GraphNames$Walk" (99) (⟨"GraphNames$Cells", "take", "(LGraphNames$Cells;)V"⟩ : MethodName) : Cond) := by decide +kernel
theorem w_618 : lw_tbl[618]? = some (.instanceMethod (⟨"GraphNames$Cells", "take", "(LGraphNames$Cells;)V"⟩ : MethodName) : Cond) := by decide +kernel
theorem w_619 : lw_tbl[619]? = some (.selects "GraphNames$Cells" (⟨"GraphNames$Cells", "take", "(LGraphNames$Cells;)V"⟩ : MethodName) (⟨"GraphNames$Cells", "take", "(LGraphNames$Cells;)V"⟩ : MethodName) : Cond) := by decide +kernel
theorem w_620 : lw_tbl[620]? = some (.code (⟨"GraphNames$Cells", "take", "(LGraphNames$Cells;)V"⟩) prog_2_method_11_code 2 none : Cond) := by decide +kernel
theorem w_621 : lw_tbl[621]? = some (.methodLink "GraphNames$Walk" (102) (⟨"GraphNames$Cells", "putAhead", "(I)V"⟩ : MethodName) : Cond) := by decide +kernel
theorem w_622 : lw_tbl[622]? = some (.instanceMethod (⟨"GraphNames$Cells", "putAhead", "(I)V"⟩ : MethodName) : Cond) := by decide +kernel
theorem w_623 : lw_tbl[623]? = some (.selects "GraphNames$Cells" (⟨"GraphNames$Cells", "putAhead", "(I)V"⟩ : MethodName) (⟨"GraphNames$Cells", "putAhead", "(I)V"⟩ : MethodName) : Cond) := by decide +kernel
theorem w_624 : lw_tbl[624]? = some (.code (⟨"GraphNames$Cells", "putAhead", "(I)V"⟩) prog_2_method_8_code 4 none : Cond) := by decide +kernel
theorem w_625 : lw_tbl[625]? = some (.methodLinkNest "GraphNames$Cells" (78) (⟨"GraphNames", "in", "(II)Z"⟩ : MethodName) "GraphNames" : Cond) := by decide +kernel
theorem w_626 : lw_tbl[626]? = some (.methodLink "GraphNames$Walk" (106) (⟨"GraphNames$Cells", "refine", "(LGraphNames$Graph;)V"⟩ : MethodName) : Cond) := by decide +kernel
theorem w_627 : lw_tbl[627]? = some (.methodLink "GraphNames$Walk" (109) (⟨"GraphNames$Walk", "cuts", "(I)Z"⟩ : MethodName) : Cond) := by decide +kernel
theorem w_628 : lw_tbl[628]? = some (.declares (⟨"GraphNames$Walk", "cuts", "(I)Z"⟩ : MethodName) : Cond) := by decide +kernel
theorem w_629 : lw_tbl[629]? = some (.sameMethod "GraphNames$Walk" "GraphNames$Walk" "cuts" "(I)Z" : Cond) := by decide +kernel
theorem w_630 : lw_tbl[630]? = some (.selects "GraphNames$Search" (⟨"GraphNames$Walk", "cuts", "(I)Z"⟩ : MethodName) (⟨"GraphNames$Search", "cuts", "(I)Z"⟩ : MethodName) : Cond) := by decide +kernel
theorem w_631 : lw_tbl[631]? = some (.instanceMethod (⟨"GraphNames$Search", "cuts", "(I)Z"⟩ : MethodName) : Cond) := by decide +kernel
theorem w_632 : lw_tbl[632]? = some (.code (⟨"GraphNames$Search", "cuts", "(I)Z"⟩) prog_8_method_7_code 3 (some .boolean) : Cond) := by decide +kernel
theorem w_633 : lw_tbl[633]? = some (.selects "GraphNames$Tree" (⟨"GraphNames$Walk", "cuts", "(I)Z"⟩ : MethodName) (⟨"GraphNames$Tree", "cuts", "(I)Z"⟩ : MethodName) : Cond) := by decide +kernel
theorem w_634 : lw_tbl[634]? = some (.instanceMethod (⟨"GraphNames$Tree", "cuts", "(I)Z"⟩ : MethodName) : Cond) := by decide +kernel
theorem w_635 : lw_tbl[635]? = some (.code (⟨"GraphNames$Tree", "cuts", "(I)Z"⟩) prog_9_method_4_code 2 (some .boolean) : Cond) := by decide +kernel
theorem w_636 : lw_tbl[636]? = some (.methodLink "GraphNamesLaw" (169) (⟨"GraphNames", "search", "(II)I"⟩ : MethodName) : Cond) := by decide +kernel
theorem w_637 : lw_tbl[637]? = some (.instanceMethod (⟨"GraphNames", "search", "(II)I"⟩ : MethodName) : Cond) := by decide +kernel
theorem w_638 : lw_tbl[638]? = some (.selects "GraphNames" (⟨"GraphNames", "search", "(II)I"⟩ : MethodName) (⟨"GraphNames", "search", "(II)I"⟩ : MethodName) : Cond) := by decide +kernel
theorem w_639 : lw_tbl[639]? = some (.code (⟨"GraphNames", "search", "(II)I"⟩) prog_1_method_14_code 5 (some .int) : Cond) := by decide +kernel
theorem w_640 : lw_tbl[640]? = some (.methodLink "GraphNames" (206) (⟨"GraphNames", "searchOf", "(I)LGraphNames$Search;"⟩ : MethodName) : Cond) := by decide +kernel
theorem w_642 : lw_tbl[642]? = some (.instanceMethod (⟨"GraphNames", "searchOf", "(I)LGraphNames$Search;"⟩ : MethodName) : Cond) := by decide +kernel
theorem w_643 : lw_tbl[643]? = some (.code (⟨"GraphNames", "searchOf", "(I)LGraphNames$Search;"⟩) prog_1_method_47_code 3 (some (.object "GraphNames$Search")) : Cond) := by decide +kernel
theorem w_644 : lw_tbl[644]? = some (.methodLink "GraphNames" (320) (⟨"GraphNames$Search", "look", "(LGraphNames$Graph;)V"⟩ : MethodName) : Cond) := by decide +kernel
theorem w_645 : lw_tbl[645]? = some (.sameMethod "GraphNames$Search" "GraphNames$Walk" "look" "(LGraphNames$Graph;)V" : Cond) := by decide +kernel
theorem w_646 : lw_tbl[646]? = some (.selects "GraphNames$Search" (⟨"GraphNames$Search", "look", "(LGraphNames$Graph;)V"⟩ : MethodName) (⟨"GraphNames$Walk", "look", "(LGraphNames$Graph;)V"⟩ : MethodName) : Cond) := by decide +kernel
theorem w_647 : lw_tbl[647]? = some (.methodLink "GraphNamesLaw" (107) (⟨"GraphNames", "name", "(II)I"⟩ : MethodName) : Cond) := by decide +kernel
theorem w_648 : lw_tbl[648]? = some (.instanceMethod (⟨"GraphNames", "name", "(II)I"⟩ : MethodName) : Cond) := by decide +kernel
theorem w_649 : lw_tbl[649]? = some (.selects "GraphNames" (⟨"GraphNames", "name", "(II)I"⟩ : MethodName) (⟨"GraphNames", "name", "(II)I"⟩ : MethodName) : Cond) := by decide +kernel
theorem w_650 : lw_tbl[650]? = some (.code (⟨"GraphNames", "name", "(II)I"⟩) prog_1_method_15_code 4 (some .int) : Cond) := by decide +kernel
theorem w_651 : lw_tbl[651]? = some (.methodLink "GraphNamesLaw" (148) (⟨"GraphNames", "less", "(II)I"⟩ : MethodName) : Cond) := by decide +kernel
theorem w_652 : lw_tbl[652]? = some (.instanceMethod (⟨"GraphNames", "less", "(II)I"⟩ : MethodName) : Cond) := by decide +kernel
theorem w_653 : lw_tbl[653]? = some (.selects "GraphNames" (⟨"GraphNames", "less", "(II)I"⟩ : MethodName) (⟨"GraphNames", "less", "(II)I"⟩ : MethodName) : Cond) := by decide +kernel
theorem w_654 : lw_tbl[654]? = some (.code (⟨"GraphNames", "less", "(II)I"⟩) prog_1_method_17_code 6 (some .int) : Cond) := by decide +kernel
theorem w_655 : lw_tbl[655]? = some (.methodLink "GraphNames" (234) (⟨"GraphNames$Leaf", "compareCodes", "(LGraphNames$Leaf;)I"⟩ : MethodName) : Cond) := by decide +kernel
theorem w_656 : lw_tbl[656]? = some (.methodLink "GraphNamesLaw" (172) (⟨"GraphNames", "generator", "(III)I"⟩ : MethodName) : Cond) := by decide +kernel
theorem w_657 : lw_tbl[657]? = some (.instanceMethod (⟨"GraphNames", "generator", "(III)I"⟩ : MethodName) : Cond) := by decide +kernel
theorem w_658 : lw_tbl[658]? = some (.selects "GraphNames" (⟨"GraphNames", "generator", "(III)I"⟩ : MethodName) (⟨"GraphNames", "generator", "(III)I"⟩ : MethodName) : Cond) := by decide +kernel
theorem w_659 : lw_tbl[659]? = some (.code (⟨"GraphNames", "generator", "(III)I"⟩) prog_1_method_18_code 6 (some .int) : Cond) := by decide +kernel
theorem w_660 : lw_tbl[660]? = some (.methodLink "GraphNames" (241) (⟨"GraphNames", "sentTo", "(II)I"⟩ : MethodName) : Cond) := by decide +kernel
theorem w_661 : lw_tbl[661]? = some (.methodLink "GraphNamesLaw" (114) (⟨"GraphNames", "symmetries", "(II)I"⟩ : MethodName) : Cond) := by decide +kernel
theorem w_662 : lw_tbl[662]? = some (.instanceMethod (⟨"GraphNames", "symmetries", "(II)I"⟩ : MethodName) : Cond) := by decide +kernel
theorem w_663 : lw_tbl[663]? = some (.selects "GraphNames" (⟨"GraphNames", "symmetries", "(II)I"⟩ : MethodName) (⟨"GraphNames", "symmetries", "(II)I"⟩ : MethodName) : Cond) := by decide +kernel
theorem w_664 : lw_tbl[664]? = some (.code (⟨"GraphNames", "symmetries", "(II)I"⟩) prog_1_method_19_code 4 (some .int) : Cond) := by decide +kernel
theorem w_665 : lw_tbl[665]? = some (.methodLink "GraphNames" (245) (⟨"GraphNames$Pairing", "match", "(LGraphNames$Graph;LGraphNames$Graph;I)V"⟩ : MethodName) : Cond) := by decide +kernel
theorem w_666 : lw_tbl[666]? = some (.instanceMethod (⟨"GraphNames$Pairing", "match", "(LGraphNames$Graph;LGraphNames$Graph;I)V"⟩ : MethodName) : Cond) := by decide +kernel
theorem w_667 : lw_tbl[667]? = some (.selects "GraphNames$Pairing" (⟨"GraphNames$Pairing", "match", "(LGraphNames$Graph;LGraphNames$Graph;I)V"⟩ : MethodName) (⟨"GraphNames$Pairing", "match", "(LGraphNames$Graph;LGraphNames$Graph;I)V"⟩ : MethodName) : Cond) := by decide +kernel
theorem w_668 : lw_tbl[668]? = some (.code (⟨"GraphNames$Pairing", "match", "(LGraphNames$Graph;LGraphNames$Graph;I)V"⟩) prog_5_method_2_code 5 none : Cond) := by decide +kernel
theorem w_669 : lw_tbl[669]? = some (.methodLink "GraphNames$Pairing" (41) (⟨"GraphNames$Graph", "take", "(LGraphNames$Graph;)V"⟩ : MethodName) : Cond) := by decide +kernel
theorem w_670 : lw_tbl[670]? = some (.methodLink "GraphNames$Pairing" (48) (⟨"GraphNames$Pairing", "send", "(II)V"⟩ : MethodName) : Cond) := by decide +kernel
theorem w_672 : lw_tbl[672]? = some (.instanceMethod (⟨"GraphNames$Pairing", "send", "(II)V"⟩ : MethodName) : Cond) := by decide +kernel
theorem w_673 : lw_tbl[673]? = some (.code (⟨"GraphNames$Pairing", "send", "(II)V"⟩) prog_5_method_3_code 4 none : Cond) := by decide +kernel
theorem w_674 : lw_tbl[674]? = some (.methodLink "GraphNames$Pairing" (52) (⟨"GraphNames$Pairing", "note", "()V"⟩ : MethodName) : Cond) := by decide +kernel
theorem w_676 : lw_tbl[676]? = some (.instanceMethod (⟨"GraphNames$Pairing", "note", "()V"⟩ : MethodName) : Cond) := by decide +kernel
theorem w_677 : lw_tbl[677]? = some (.code (⟨"GraphNames$Pairing", "note", "()V"⟩) prog_5_method_6_code 2 none : Cond) := by decide +kernel
theorem w_679 : lw_tbl[679]? = some (.methodLinkNest "GraphNames$Pairing" (55) (⟨"GraphNames", "in", "(II)Z"⟩ : MethodName) "GraphNames" : Cond) := by decide +kernel
theorem w_680 : lw_tbl[680]? = some (.methodLink "GraphNames$Pairing" (59) (⟨"GraphNames$Pairing", "fits", "(II)Z"⟩ : MethodName) : Cond) := by decide +kernel
theorem w_682 : lw_tbl[682]? = some (.instanceMethod (⟨"GraphNames$Pairing", "fits", "(II)Z"⟩ : MethodName) : Cond) := by decide +kernel
theorem w_683 : lw_tbl[683]? = some (.code (⟨"GraphNames$Pairing", "fits", "(II)Z"⟩) prog_5_method_4_code 3 (some .boolean) : Cond) := by decide +kernel
theorem w_684 : lw_tbl[684]? = some (.methodLink "GraphNames$Pairing" (62) (⟨"GraphNames$Pairing", "unlike", "(II)I"⟩ : MethodName) : Cond) := by decide +kernel
theorem w_686 : lw_tbl[686]? = some (.instanceMethod (⟨"GraphNames$Pairing", "unlike", "(II)I"⟩ : MethodName) : Cond) := by decide +kernel
theorem w_687 : lw_tbl[687]? = some (.code (⟨"GraphNames$Pairing", "unlike", "(II)I"⟩) prog_5_method_5_code 5 (some .int) : Cond) := by decide +kernel
theorem w_688 : lw_tbl[688]? = some (.methodLink "GraphNames" (252) (⟨"GraphNames$Pairing", "orbits", "()I"⟩ : MethodName) : Cond) := by decide +kernel
theorem w_689 : lw_tbl[689]? = some (.instanceMethod (⟨"GraphNames$Pairing", "orbits", "()I"⟩ : MethodName) : Cond) := by decide +kernel
theorem w_690 : lw_tbl[690]? = some (.selects "GraphNames$Pairing" (⟨"GraphNames$Pairing", "orbits", "()I"⟩ : MethodName) (⟨"GraphNames$Pairing", "orbits", "()I"⟩ : MethodName) : Cond) := by decide +kernel
theorem w_691 : lw_tbl[691]? = some (.code (⟨"GraphNames$Pairing", "orbits", "()I"⟩) prog_5_method_7_code 3 (some .int) : Cond) := by decide +kernel
theorem w_692 : lw_tbl[692]? = some (.methodLink "GraphNames" (255) (⟨"GraphNames$Pairing", "unmoved", "()I"⟩ : MethodName) : Cond) := by decide +kernel
theorem w_693 : lw_tbl[693]? = some (.instanceMethod (⟨"GraphNames$Pairing", "unmoved", "()I"⟩ : MethodName) : Cond) := by decide +kernel
theorem w_694 : lw_tbl[694]? = some (.selects "GraphNames$Pairing" (⟨"GraphNames$Pairing", "unmoved", "()I"⟩ : MethodName) (⟨"GraphNames$Pairing", "unmoved", "()I"⟩ : MethodName) : Cond) := by decide +kernel
theorem w_695 : lw_tbl[695]? = some (.code (⟨"GraphNames$Pairing", "unmoved", "()I"⟩) prog_5_method_8_code 3 (some .int) : Cond) := by decide +kernel
theorem w_696 : lw_tbl[696]? = some (.methodLink "GraphNamesLaw" (89) (⟨"GraphNames", "orbit", "(II)I"⟩ : MethodName) : Cond) := by decide +kernel
theorem w_697 : lw_tbl[697]? = some (.instanceMethod (⟨"GraphNames", "orbit", "(II)I"⟩ : MethodName) : Cond) := by decide +kernel
theorem w_698 : lw_tbl[698]? = some (.selects "GraphNames" (⟨"GraphNames", "orbit", "(II)I"⟩ : MethodName) (⟨"GraphNames", "orbit", "(II)I"⟩ : MethodName) : Cond) := by decide +kernel
theorem w_699 : lw_tbl[699]? = some (.code (⟨"GraphNames", "orbit", "(II)I"⟩) prog_1_method_20_code 4 (some .int) : Cond) := by decide +kernel
theorem w_700 : lw_tbl[700]? = some (.methodLink "GraphNamesLaw" (163) (⟨"GraphNames", "leave", "(II)I"⟩ : MethodName) : Cond) := by decide +kernel
theorem w_701 : lw_tbl[701]? = some (.instanceMethod (⟨"GraphNames", "leave", "(II)I"⟩ : MethodName) : Cond) := by decide +kernel
theorem w_702 : lw_tbl[702]? = some (.selects "GraphNames" (⟨"GraphNames", "leave", "(II)I"⟩ : MethodName) (⟨"GraphNames", "leave", "(II)I"⟩ : MethodName) : Cond) := by decide +kernel
theorem w_703 : lw_tbl[703]? = some (.code (⟨"GraphNames", "leave", "(II)I"⟩) prog_1_method_21_code 4 (some .int) : Cond) := by decide +kernel
theorem w_704 : lw_tbl[704]? = some (.methodLink "GraphNames" (261) (⟨"GraphNames$Graph", "hasAll", "(I)Z"⟩ : MethodName) : Cond) := by decide +kernel
theorem w_705 : lw_tbl[705]? = some (.instanceMethod (⟨"GraphNames$Graph", "hasAll", "(I)Z"⟩ : MethodName) : Cond) := by decide +kernel
theorem w_706 : lw_tbl[706]? = some (.selects "GraphNames$Graph" (⟨"GraphNames$Graph", "hasAll", "(I)Z"⟩ : MethodName) (⟨"GraphNames$Graph", "hasAll", "(I)Z"⟩ : MethodName) : Cond) := by decide +kernel
theorem w_707 : lw_tbl[707]? = some (.code (⟨"GraphNames$Graph", "hasAll", "(I)Z"⟩) prog_3_method_3_code 2 (some .boolean) : Cond) := by decide +kernel
theorem w_708 : lw_tbl[708]? = some (.methodLink "GraphNamesLaw" (151) (⟨"GraphNames", "maps", "(II)I"⟩ : MethodName) : Cond) := by decide +kernel
theorem w_709 : lw_tbl[709]? = some (.instanceMethod (⟨"GraphNames", "maps", "(II)I"⟩ : MethodName) : Cond) := by decide +kernel
theorem w_710 : lw_tbl[710]? = some (.selects "GraphNames" (⟨"GraphNames", "maps", "(II)I"⟩ : MethodName) (⟨"GraphNames", "maps", "(II)I"⟩ : MethodName) : Cond) := by decide +kernel
theorem w_711 : lw_tbl[711]? = some (.code (⟨"GraphNames", "maps", "(II)I"⟩) prog_1_method_22_code 5 (some .int) : Cond) := by decide +kernel
theorem w_712 : lw_tbl[712]? = some (.methodLink "GraphNamesLaw" (160) (⟨"GraphNames", "map", "(III)I"⟩ : MethodName) : Cond) := by decide +kernel
theorem w_713 : lw_tbl[713]? = some (.instanceMethod (⟨"GraphNames", "map", "(III)I"⟩ : MethodName) : Cond) := by decide +kernel
theorem w_714 : lw_tbl[714]? = some (.selects "GraphNames" (⟨"GraphNames", "map", "(III)I"⟩ : MethodName) (⟨"GraphNames", "map", "(III)I"⟩ : MethodName) : Cond) := by decide +kernel
theorem w_715 : lw_tbl[715]? = some (.code (⟨"GraphNames", "map", "(III)I"⟩) prog_1_method_23_code 6 (some .int) : Cond) := by decide +kernel
theorem w_716 : lw_tbl[716]? = some (.methodLink "GraphNamesLaw" (154) (⟨"GraphNames", "changes", "(II)I"⟩ : MethodName) : Cond) := by decide +kernel
theorem w_717 : lw_tbl[717]? = some (.instanceMethod (⟨"GraphNames", "changes", "(II)I"⟩ : MethodName) : Cond) := by decide +kernel
theorem w_718 : lw_tbl[718]? = some (.selects "GraphNames" (⟨"GraphNames", "changes", "(II)I"⟩ : MethodName) (⟨"GraphNames", "changes", "(II)I"⟩ : MethodName) : Cond) := by decide +kernel
theorem w_719 : lw_tbl[719]? = some (.code (⟨"GraphNames", "changes", "(II)I"⟩) prog_1_method_24_code 5 (some .int) : Cond) := by decide +kernel
theorem w_720 : lw_tbl[720]? = some (.methodLink "GraphNames" (267) (⟨"GraphNames$Pairing", "leastChanges", "(LGraphNames$Graph;LGraphNames$Graph;)I"⟩ : MethodName) : Cond) := by decide +kernel
theorem w_721 : lw_tbl[721]? = some (.instanceMethod (⟨"GraphNames$Pairing", "leastChanges", "(LGraphNames$Graph;LGraphNames$Graph;)I"⟩ : MethodName) : Cond) := by decide +kernel
theorem w_722 : lw_tbl[722]? = some (.selects "GraphNames$Pairing" (⟨"GraphNames$Pairing", "leastChanges", "(LGraphNames$Graph;LGraphNames$Graph;)I"⟩ : MethodName) (⟨"GraphNames$Pairing", "leastChanges", "(LGraphNames$Graph;LGraphNames$Graph;)I"⟩ : MethodName) : Cond) := by decide +kernel
theorem w_723 : lw_tbl[723]? = some (.code (⟨"GraphNames$Pairing", "leastChanges", "(LGraphNames$Graph;LGraphNames$Graph;)I"⟩) prog_5_method_9_code 3 (some .int) : Cond) := by decide +kernel
theorem w_724 : lw_tbl[724]? = some (.methodLink "GraphNames$Pairing" (79) (⟨"GraphNames$Pairing", "weigh", "(III)V"⟩ : MethodName) : Cond) := by decide +kernel
theorem w_726 : lw_tbl[726]? = some (.instanceMethod (⟨"GraphNames$Pairing", "weigh", "(III)V"⟩ : MethodName) : Cond) := by decide +kernel
theorem w_727 : lw_tbl[727]? = some (.code (⟨"GraphNames$Pairing", "weigh", "(III)V"⟩) prog_5_method_10_code 5 none : Cond) := by decide +kernel
theorem w_728 : lw_tbl[728]? = some (.methodLink "GraphNamesLaw" (157) (⟨"GraphNames", "told", "(II)I"⟩ : MethodName) : Cond) := by decide +kernel
theorem w_729 : lw_tbl[729]? = some (.instanceMethod (⟨"GraphNames", "told", "(II)I"⟩ : MethodName) : Cond) := by decide +kernel
theorem w_730 : lw_tbl[730]? = some (.selects "GraphNames" (⟨"GraphNames", "told", "(II)I"⟩ : MethodName) (⟨"GraphNames", "told", "(II)I"⟩ : MethodName) : Cond) := by decide +kernel
theorem w_731 : lw_tbl[731]? = some (.code (⟨"GraphNames", "told", "(II)I"⟩) prog_1_method_25_code 5 (some .int) : Cond) := by decide +kernel
theorem w_732 : lw_tbl[732]? = some (.methodLink "GraphNames" (271) (⟨"GraphNames", "toldApart", "(LGraphNames$Graph;LGraphNames$Graph;)I"⟩ : MethodName) : Cond) := by decide +kernel
theorem w_734 : lw_tbl[734]? = some (.instanceMethod (⟨"GraphNames", "toldApart", "(LGraphNames$Graph;LGraphNames$Graph;)I"⟩ : MethodName) : Cond) := by decide +kernel
theorem w_735 : lw_tbl[735]? = some (.code (⟨"GraphNames", "toldApart", "(LGraphNames$Graph;LGraphNames$Graph;)I"⟩) prog_1_method_48_code 5 (some .int) : Cond) := by decide +kernel
theorem w_736 : lw_tbl[736]? = some (.methodLink "GraphNames" (321) (⟨"GraphNames$Cells", "alike", "(LGraphNames$Cells;)Z"⟩ : MethodName) : Cond) := by decide +kernel
theorem w_737 : lw_tbl[737]? = some (.instanceMethod (⟨"GraphNames$Cells", "alike", "(LGraphNames$Cells;)Z"⟩ : MethodName) : Cond) := by decide +kernel
theorem w_738 : lw_tbl[738]? = some (.selects "GraphNames$Cells" (⟨"GraphNames$Cells", "alike", "(LGraphNames$Cells;)Z"⟩ : MethodName) (⟨"GraphNames$Cells", "alike", "(LGraphNames$Cells;)Z"⟩ : MethodName) : Cond) := by decide +kernel
theorem w_739 : lw_tbl[739]? = some (.code (⟨"GraphNames$Cells", "alike", "(LGraphNames$Cells;)Z"⟩) prog_2_method_12_code 3 (some .boolean) : Cond) := by decide +kernel
theorem w_740 : lw_tbl[740]? = some (.methodLink "GraphNames" (325) (⟨"GraphNames$Cells", "divide", "(LGraphNames$Graph;)Z"⟩ : MethodName) : Cond) := by decide +kernel
theorem w_741 : lw_tbl[741]? = some (.methodLink "GraphNamesLaw" (145) (⟨"GraphNames", "shuffle", "(II)I"⟩ : MethodName) : Cond) := by decide +kernel
theorem w_742 : lw_tbl[742]? = some (.instanceMethod (⟨"GraphNames", "shuffle", "(II)I"⟩ : MethodName) : Cond) := by decide +kernel
theorem w_743 : lw_tbl[743]? = some (.selects "GraphNames" (⟨"GraphNames", "shuffle", "(II)I"⟩ : MethodName) (⟨"GraphNames", "shuffle", "(II)I"⟩ : MethodName) : Cond) := by decide +kernel
theorem w_744 : lw_tbl[744]? = some (.code (⟨"GraphNames", "shuffle", "(II)I"⟩) prog_1_method_33_code 4 (some .int) : Cond) := by decide +kernel
theorem w_745 : lw_tbl[745]? = some (.constant "GraphNames" 302 (2147483647) : Cond) := by decide +kernel
theorem w_746 : lw_tbl[746]? = some (.methodLink "GraphNames" (108) (⟨"GraphNames$Past", "keep", "(ILGraphNames$Graph;)V"⟩ : MethodName) : Cond) := by decide +kernel
theorem w_747 : lw_tbl[747]? = some (.instanceMethod (⟨"GraphNames$Past", "keep", "(ILGraphNames$Graph;)V"⟩ : MethodName) : Cond) := by decide +kernel
theorem w_748 : lw_tbl[748]? = some (.selects "GraphNames$Past" (⟨"GraphNames$Past", "keep", "(ILGraphNames$Graph;)V"⟩ : MethodName) (⟨"GraphNames$Past", "keep", "(ILGraphNames$Graph;)V"⟩ : MethodName) : Cond) := by decide +kernel
theorem w_749 : lw_tbl[749]? = some (.code (⟨"GraphNames$Past", "keep", "(ILGraphNames$Graph;)V"⟩) prog_6_method_2_code 3 none : Cond) := by decide +kernel
theorem w_750 : lw_tbl[750]? = some (.methodLink "GraphNames$Past" (29) (⟨"GraphNames$Graph", "take", "(LGraphNames$Graph;)V"⟩ : MethodName) : Cond) := by decide +kernel
theorem w_751 : lw_tbl[751]? = some (.methodLink "GraphNames$Past" (33) (⟨"java/lang/Math", "min", "(II)I"⟩ : MethodName) : Cond) := by decide +kernel
theorem w_752 : lw_tbl[752]? = some (.methodLink "GraphNames" (303) (⟨"GraphNames$Graph", "mix", "(I)I"⟩ : MethodName) : Cond) := by decide +kernel
theorem w_753 : lw_tbl[753]? = some (.instanceMethod (⟨"GraphNames$Graph", "mix", "(I)I"⟩ : MethodName) : Cond) := by decide +kernel
theorem w_754 : lw_tbl[754]? = some (.selects "GraphNames$Graph" (⟨"GraphNames$Graph", "mix", "(I)I"⟩ : MethodName) (⟨"GraphNames$Graph", "mix", "(I)I"⟩ : MethodName) : Cond) := by decide +kernel
theorem w_755 : lw_tbl[755]? = some (.code (⟨"GraphNames$Graph", "mix", "(I)I"⟩) prog_3_method_8_code 7 (some .int) : Cond) := by decide +kernel
theorem w_756 : lw_tbl[756]? = some (.constantLong "GraphNames$Graph" 43 (48271) : Cond) := by decide +kernel
theorem w_757 : lw_tbl[757]? = some (.constantLong "GraphNames$Graph" 45 (2147483647) : Cond) := by decide +kernel
theorem w_758 : lw_tbl[758]? = some (.methodLink "GraphNames$Graph" (47) (⟨"GraphNames$Graph", "exchange", "(II)V"⟩ : MethodName) : Cond) := by decide +kernel
theorem w_759 : lw_tbl[759]? = some (.instanceMethod (⟨"GraphNames$Graph", "exchange", "(II)V"⟩ : MethodName) : Cond) := by decide +kernel
theorem w_760 : lw_tbl[760]? = some (.selects "GraphNames$Graph" (⟨"GraphNames$Graph", "exchange", "(II)V"⟩ : MethodName) (⟨"GraphNames$Graph", "exchange", "(II)V"⟩ : MethodName) : Cond) := by decide +kernel
theorem w_761 : lw_tbl[761]? = some (.code (⟨"GraphNames$Graph", "exchange", "(II)V"⟩) prog_3_method_7_code 6 none : Cond) := by decide +kernel
theorem w_762 : lw_tbl[762]? = some (.methodLink "GraphNames$Graph" (39) (⟨"GraphNames$Graph", "join", "(III)V"⟩ : MethodName) : Cond) := by decide +kernel
theorem w_763 : lw_tbl[763]? = some (.instanceMethod (⟨"GraphNames$Graph", "join", "(III)V"⟩ : MethodName) : Cond) := by decide +kernel
theorem w_764 : lw_tbl[764]? = some (.selects "GraphNames$Graph" (⟨"GraphNames$Graph", "join", "(III)V"⟩ : MethodName) (⟨"GraphNames$Graph", "join", "(III)V"⟩ : MethodName) : Cond) := by decide +kernel
theorem w_765 : lw_tbl[765]? = some (.code (⟨"GraphNames$Graph", "join", "(III)V"⟩) prog_3_method_6_code 5 none : Cond) := by decide +kernel
theorem w_766 : lw_tbl[766]? = some (.methodLink "GraphNamesLaw" (141) (⟨"GraphNames", "copy", "(II)I"⟩ : MethodName) : Cond) := by decide +kernel
theorem w_767 : lw_tbl[767]? = some (.instanceMethod (⟨"GraphNames", "copy", "(II)I"⟩ : MethodName) : Cond) := by decide +kernel
theorem w_768 : lw_tbl[768]? = some (.selects "GraphNames" (⟨"GraphNames", "copy", "(II)I"⟩ : MethodName) (⟨"GraphNames", "copy", "(II)I"⟩ : MethodName) : Cond) := by decide +kernel
theorem w_769 : lw_tbl[769]? = some (.code (⟨"GraphNames", "copy", "(II)I"⟩) prog_1_method_34_code 5 (some .int) : Cond) := by decide +kernel
theorem w_770 : lw_tbl[770]? = some (.methodLink "GraphNames" (115) (⟨"GraphNames$Graph", "take", "(LGraphNames$Graph;)V"⟩ : MethodName) : Cond) := by decide +kernel
theorem w_771 : lw_tbl[771]? = some (.methodLink "GraphNamesLaw" (127) (⟨"GraphNames", "row", "(II)I"⟩ : MethodName) : Cond) := by decide +kernel
theorem w_772 : lw_tbl[772]? = some (.instanceMethod (⟨"GraphNames", "row", "(II)I"⟩ : MethodName) : Cond) := by decide +kernel
theorem w_773 : lw_tbl[773]? = some (.selects "GraphNames" (⟨"GraphNames", "row", "(II)I"⟩ : MethodName) (⟨"GraphNames", "row", "(II)I"⟩ : MethodName) : Cond) := by decide +kernel
theorem w_774 : lw_tbl[774]? = some (.code (⟨"GraphNames", "row", "(II)I"⟩) prog_1_method_41_code 4 (some .int) : Cond) := by decide +kernel
theorem w_836 : lw_tbl[836]? = some (.methodLink "GraphNamesLaw" (98) (⟨"GraphNames", "trouble", "()I"⟩ : MethodName) : Cond) := by decide +kernel
theorem w_837 : lw_tbl[837]? = some (.instanceMethod (⟨"GraphNames", "trouble", "()I"⟩ : MethodName) : Cond) := by decide +kernel
theorem w_838 : lw_tbl[838]? = some (.selects "GraphNames" (⟨"GraphNames", "trouble", "()I"⟩ : MethodName) (⟨"GraphNames", "trouble", "()I"⟩ : MethodName) : Cond) := by decide +kernel
theorem w_839 : lw_tbl[839]? = some (.code (⟨"GraphNames", "trouble", "()I"⟩) prog_1_method_43_code 1 (some .int) : Cond) := by decide +kernel
theorem w_842 : lw_tbl[842]? = some (.methodLink "GraphNamesLaw" (110) (⟨"GraphNamesLaw$Draws", "<init>", "([I)V"⟩ : MethodName) : Cond) := by decide +kernel
theorem w_843 : lw_tbl[843]? = some (.instanceMethod (⟨"GraphNamesLaw$Draws", "<init>", "([I)V"⟩ : MethodName) : Cond) := by decide +kernel
theorem w_844 : lw_tbl[844]? = some (.code (⟨"GraphNamesLaw$Draws", "<init>", "([I)V"⟩) prog_12_method_1_code 2 none : Cond) := by decide +kernel
theorem w_846 : lw_tbl[846]? = some (.fieldLink "GraphNamesLaw$Draws" (7) "GraphNamesLaw$Draws" "cells" "[I" : Cond) := by decide +kernel
theorem w_847 : lw_tbl[847]? = some (.fieldLink "GraphNamesLaw$Draws" (13) "GraphNamesLaw$Draws" "at" "I" : Cond) := by decide +kernel
theorem w_853 : lw_tbl[853]? = some (.methodLink "GraphNamesLaw" (27) (⟨"GraphNamesLaw$Draws", "next", "(II)I"⟩ : MethodName) : Cond) := by decide +kernel
theorem w_854 : lw_tbl[854]? = some (.instanceMethod (⟨"GraphNamesLaw$Draws", "next", "(II)I"⟩ : MethodName) : Cond) := by decide +kernel
theorem w_855 : lw_tbl[855]? = some (.selects "GraphNamesLaw$Draws" (⟨"GraphNamesLaw$Draws", "next", "(II)I"⟩ : MethodName) (⟨"GraphNamesLaw$Draws", "next", "(II)I"⟩ : MethodName) : Cond) := by decide +kernel
theorem w_856 : lw_tbl[856]? = some (.code (⟨"GraphNamesLaw$Draws", "next", "(II)I"⟩) prog_12_method_2_code 4 (some .int) : Cond) := by decide +kernel
theorem w_857 : lw_tbl[857]? = some (.constant "GraphNamesLaw$Draws" 17 (2147483647) : Cond) := by decide +kernel
theorem w_858 : lw_tbl[858]? = some (.methodLink "GraphNamesLaw" (120) (⟨"GraphNamesLaw", "tell", "(LGraphNames;ILjava/lang/String;)I"⟩ : MethodName) : Cond) := by decide +kernel
theorem w_859 : lw_tbl[859]? = some (.static (⟨"GraphNamesLaw", "tell", "(LGraphNames;ILjava/lang/String;)I"⟩ : MethodName) : Cond) := by decide +kernel
theorem w_860 : lw_tbl[860]? = some (.code (⟨"GraphNamesLaw", "tell", "(LGraphNames;ILjava/lang/String;)I"⟩) method_2_code 6 (some .int) : Cond) := by decide +kernel
theorem w_861 : lw_tbl[861]? = some (.methodLink "GraphNamesLaw" (7) (⟨"java/lang/String", "length", "()I"⟩ : MethodName) : Cond) := by decide +kernel
theorem w_862 : lw_tbl[862]? = some (.instanceMethod (⟨"java/lang/String", "length", "()I"⟩ : MethodName) : Cond) := by decide +kernel
theorem w_863 : lw_tbl[863]? = some (.selects "java/lang/String" (⟨"java/lang/String", "length", "()I"⟩ : MethodName) (⟨"java/lang/String", "length", "()I"⟩ : MethodName) : Cond) := by decide +kernel
theorem w_864 : lw_tbl[864]? = some (.code (⟨"java/lang/String", "length", "()I"⟩) prog_25_method_54_code 1 (some .int) : Cond) := by decide +kernel
theorem w_865 : lw_tbl[865]? = some (.methodLink "java/lang/String" (335) (⟨"java/lang/String", "coder", "()B"⟩ : MethodName) : Cond) := by decide +kernel
theorem w_866 : lw_tbl[866]? = some (.instanceMethod (⟨"java/lang/String", "coder", "()B"⟩ : MethodName) : Cond) := by decide +kernel
theorem w_867 : lw_tbl[867]? = some (.selects "java/lang/String" (⟨"java/lang/String", "coder", "()B"⟩ : MethodName) (⟨"java/lang/String", "coder", "()B"⟩ : MethodName) : Cond) := by decide +kernel
theorem w_868 : lw_tbl[868]? = some (.code (⟨"java/lang/String", "coder", "()B"⟩) prog_25_method_152_code 1 (some .byte) : Cond) := by decide +kernel
theorem w_871 : lw_tbl[871]? = some (.methodLink "GraphNamesLaw" (13) (⟨"java/lang/String", "charAt", "(I)C"⟩ : MethodName) : Cond) := by decide +kernel
theorem w_872 : lw_tbl[872]? = some (.instanceMethod (⟨"java/lang/String", "charAt", "(I)C"⟩ : MethodName) : Cond) := by decide +kernel
theorem w_873 : lw_tbl[873]? = some (.selects "java/lang/String" (⟨"java/lang/String", "charAt", "(I)C"⟩ : MethodName) (⟨"java/lang/String", "charAt", "(I)C"⟩ : MethodName) : Cond) := by decide +kernel
theorem w_874 : lw_tbl[874]? = some (.code (⟨"java/lang/String", "charAt", "(I)C"⟩) prog_25_method_56_code 2 (some .char) : Cond) := by decide +kernel
theorem w_875 : lw_tbl[875]? = some (.methodLink "java/lang/String" (492) (⟨"java/lang/String", "isLatin1", "()Z"⟩ : MethodName) : Cond) := by decide +kernel
theorem w_876 : lw_tbl[876]? = some (.instanceMethod (⟨"java/lang/String", "isLatin1", "()Z"⟩ : MethodName) : Cond) := by decide +kernel
theorem w_877 : lw_tbl[877]? = some (.selects "java/lang/String" (⟨"java/lang/String", "isLatin1", "()Z"⟩ : MethodName) (⟨"java/lang/String", "isLatin1", "()Z"⟩ : MethodName) : Cond) := by decide +kernel
theorem w_878 : lw_tbl[878]? = some (.code (⟨"java/lang/String", "isLatin1", "()Z"⟩) prog_25_method_154_code 1 (some .boolean) : Cond) := by decide +kernel
theorem w_879 : lw_tbl[879]? = some (.methodLink "java/lang/String" (495) (⟨"java/lang/StringLatin1", "charAt", "([BI)C"⟩ : MethodName) : Cond) := by decide +kernel
theorem w_880 : lw_tbl[880]? = some (.static (⟨"java/lang/StringLatin1", "charAt", "([BI)C"⟩ : MethodName) : Cond) := by decide +kernel
theorem w_881 : lw_tbl[881]? = some (.code (⟨"java/lang/StringLatin1", "charAt", "([BI)C"⟩) prog_27_method_2_code 2 (some .char) : Cond) := by decide +kernel
theorem w_882 : lw_tbl[882]? = some (.methodLink "java/lang/StringLatin1" (9) (⟨"java/lang/String", "checkIndex", "(II)V"⟩ : MethodName) : Cond) := by decide +kernel
theorem w_883 : lw_tbl[883]? = some (.static (⟨"java/lang/String", "checkIndex", "(II)V"⟩ : MethodName) : Cond) := by decide +kernel
theorem w_884 : lw_tbl[884]? = some (.code (⟨"java/lang/String", "checkIndex", "(II)V"⟩) prog_25_method_155_code 2 none : Cond) := by decide +kernel
theorem w_887 : lw_tbl[887]? = some (.methodLink "java/lang/String" (1059) (⟨"jdk/internal/util/Preconditions", "checkIndex", "(IILjava/util/function/BiFunction;)I"⟩ : MethodName) : Cond) := by decide +kernel
theorem w_888 : lw_tbl[888]? = some (.static (⟨"jdk/internal/util/Preconditions", "checkIndex", "(IILjava/util/function/BiFunction;)I"⟩ : MethodName) : Cond) := by decide +kernel
theorem w_889 : lw_tbl[889]? = some (.code (⟨"jdk/internal/util/Preconditions", "checkIndex", "(IILjava/util/function/BiFunction;)I"⟩) prog_36_method_11_code 3 (some .int) : Cond) := by decide +kernel
theorem w_890 : lw_tbl[890]? = some (.methodLink "java/lang/String" (498) (⟨"java/lang/StringUTF16", "charAt", "([BI)C"⟩ : MethodName) : Cond) := by decide +kernel
theorem w_891 : lw_tbl[891]? = some (.static (⟨"java/lang/StringUTF16", "charAt", "([BI)C"⟩ : MethodName) : Cond) := by decide +kernel
theorem w_892 : lw_tbl[892]? = some (.code (⟨"java/lang/StringUTF16", "charAt", "([BI)C"⟩) prog_28_method_83_code 2 (some .char) : Cond) := by decide +kernel
theorem w_893 : lw_tbl[893]? = some (.methodLink "java/lang/StringUTF16" (67) (⟨"java/lang/StringUTF16", "checkIndex", "(I[B)V"⟩ : MethodName) : Cond) := by decide +kernel
theorem w_894 : lw_tbl[894]? = some (.static (⟨"java/lang/StringUTF16", "checkIndex", "(I[B)V"⟩ : MethodName) : Cond) := by decide +kernel
theorem w_895 : lw_tbl[895]? = some (.code (⟨"java/lang/StringUTF16", "checkIndex", "(I[B)V"⟩) prog_28_method_91_code 2 none : Cond) := by decide +kernel
theorem w_896 : lw_tbl[896]? = some (.methodLink "java/lang/StringUTF16" (48) (⟨"java/lang/StringUTF16", "length", "([B)I"⟩ : MethodName) : Cond) := by decide +kernel
theorem w_897 : lw_tbl[897]? = some (.static (⟨"java/lang/StringUTF16", "length", "([B)I"⟩ : MethodName) : Cond) := by decide +kernel
theorem w_898 : lw_tbl[898]? = some (.code (⟨"java/lang/StringUTF16", "length", "([B)I"⟩) prog_28_method_6_code 1 (some .int) : Cond) := by decide +kernel
theorem w_899 : lw_tbl[899]? = some (.methodLink "java/lang/StringUTF16" (414) (⟨"java/lang/String", "checkIndex", "(II)V"⟩ : MethodName) : Cond) := by decide +kernel
theorem w_900 : lw_tbl[900]? = some (.methodLink "java/lang/StringUTF16" (71) (⟨"java/lang/StringUTF16", "getChar", "([BI)C"⟩ : MethodName) : Cond) := by decide +kernel
theorem w_901 : lw_tbl[901]? = some (.static (⟨"java/lang/StringUTF16", "getChar", "([BI)C"⟩ : MethodName) : Cond) := by decide +kernel
theorem w_902 : lw_tbl[902]? = some (.code (⟨"java/lang/StringUTF16", "getChar", "([BI)C"⟩) prog_28_method_5_code 2 (some .char) : Cond) := by decide +kernel
theorem w_909 : lw_tbl[909]? = some (.methodLink "GraphNamesLaw" (17) (⟨"GraphNames", "feed", "(IIIII)I"⟩ : MethodName) : Cond) := by decide +kernel
theorem w_910 : lw_tbl[910]? = some (.instanceMethod (⟨"GraphNames", "feed", "(IIIII)I"⟩ : MethodName) : Cond) := by decide +kernel
theorem w_911 : lw_tbl[911]? = some (.selects "GraphNames" (⟨"GraphNames", "feed", "(IIIII)I"⟩ : MethodName) (⟨"GraphNames", "feed", "(IIIII)I"⟩ : MethodName) : Cond) := by decide +kernel
theorem w_912 : lw_tbl[912]? = some (.code (⟨"GraphNames", "feed", "(IIIII)I"⟩) prog_1_method_2_code 6 (some .int) : Cond) := by decide +kernel
theorem w_913 : lw_tbl[913]? = some (.methodLink "GraphNames" (90) (⟨"GraphNames$Reader", "put", "(I)V"⟩ : MethodName) : Cond) := by decide +kernel
theorem w_914 : lw_tbl[914]? = some (.instanceMethod (⟨"GraphNames$Reader", "put", "(I)V"⟩ : MethodName) : Cond) := by decide +kernel
theorem w_915 : lw_tbl[915]? = some (.selects "GraphNames$Reader" (⟨"GraphNames$Reader", "put", "(I)V"⟩ : MethodName) (⟨"GraphNames$Reader", "put", "(I)V"⟩ : MethodName) : Cond) := by decide +kernel
theorem w_916 : lw_tbl[916]? = some (.code (⟨"GraphNames$Reader", "put", "(I)V"⟩) prog_7_method_2_code 3 none : Cond) := by decide +kernel
theorem w_917 : lw_tbl[917]? = some (.methodLink "GraphNamesLaw" (23) (⟨"GraphNames", "text", "(II)I"⟩ : MethodName) : Cond) := by decide +kernel
theorem w_918 : lw_tbl[918]? = some (.instanceMethod (⟨"GraphNames", "text", "(II)I"⟩ : MethodName) : Cond) := by decide +kernel
theorem w_919 : lw_tbl[919]? = some (.selects "GraphNames" (⟨"GraphNames", "text", "(II)I"⟩ : MethodName) (⟨"GraphNames", "text", "(II)I"⟩ : MethodName) : Cond) := by decide +kernel
theorem w_920 : lw_tbl[920]? = some (.code (⟨"GraphNames", "text", "(II)I"⟩) prog_1_method_3_code 4 (some .int) : Cond) := by decide +kernel
theorem w_921 : lw_tbl[921]? = some (.methodLink "GraphNames" (102) (⟨"GraphNames$Reader", "read", "(I)V"⟩ : MethodName) : Cond) := by decide +kernel
theorem w_922 : lw_tbl[922]? = some (.instanceMethod (⟨"GraphNames$Reader", "read", "(I)V"⟩ : MethodName) : Cond) := by decide +kernel
theorem w_923 : lw_tbl[923]? = some (.selects "GraphNames$Reader" (⟨"GraphNames$Reader", "read", "(I)V"⟩ : MethodName) (⟨"GraphNames$Reader", "read", "(I)V"⟩ : MethodName) : Cond) := by decide +kernel
theorem w_924 : lw_tbl[924]? = some (.code (⟨"GraphNames$Reader", "read", "(I)V"⟩) prog_7_method_3_code 2 none : Cond) := by decide +kernel
theorem w_925 : lw_tbl[925]? = some (.methodLink "GraphNames$Reader" (47) (⟨"GraphNames$Reader", "step", "()V"⟩ : MethodName) : Cond) := by decide +kernel
theorem w_927 : lw_tbl[927]? = some (.instanceMethod (⟨"GraphNames$Reader", "step", "()V"⟩ : MethodName) : Cond) := by decide +kernel
theorem w_928 : lw_tbl[928]? = some (.code (⟨"GraphNames$Reader", "step", "()V"⟩) prog_7_method_15_code 2 none : Cond) := by decide +kernel
theorem w_929 : lw_tbl[929]? = some (.methodLink "GraphNames$Reader" (129) (⟨"GraphNames$Reader", "isLetter", "(I)Z"⟩ : MethodName) : Cond) := by decide +kernel
theorem w_930 : lw_tbl[930]? = some (.static (⟨"GraphNames$Reader", "isLetter", "(I)Z"⟩ : MethodName) : Cond) := by decide +kernel
theorem w_931 : lw_tbl[931]? = some (.code (⟨"GraphNames$Reader", "isLetter", "(I)Z"⟩) prog_7_method_16_code 1 (some .boolean) : Cond) := by decide +kernel
theorem w_932 : lw_tbl[932]? = some (.methodLink "GraphNames$Reader" (50) (⟨"GraphNames$Reader", "readSize", "()Z"⟩ : MethodName) : Cond) := by decide +kernel
theorem w_934 : lw_tbl[934]? = some (.instanceMethod (⟨"GraphNames$Reader", "readSize", "()Z"⟩ : MethodName) : Cond) := by decide +kernel
theorem w_935 : lw_tbl[935]? = some (.code (⟨"GraphNames$Reader", "readSize", "()Z"⟩) prog_7_method_4_code 1 (some .boolean) : Cond) := by decide +kernel
theorem w_937 : lw_tbl[937]? = some (.methodLink "GraphNames$Reader" (59) (⟨"GraphNames$Reader", "isWord", "(Ljava/lang/String;)Z"⟩ : MethodName) : Cond) := by decide +kernel
theorem w_939 : lw_tbl[939]? = some (.instanceMethod (⟨"GraphNames$Reader", "isWord", "(Ljava/lang/String;)Z"⟩ : MethodName) : Cond) := by decide +kernel
theorem w_940 : lw_tbl[940]? = some (.code (⟨"GraphNames$Reader", "isWord", "(Ljava/lang/String;)Z"⟩) prog_7_method_14_code 3 (some .boolean) : Cond) := by decide +kernel
theorem w_941 : lw_tbl[941]? = some (.methodLink "GraphNames$Reader" (120) (⟨"java/lang/String", "length", "()I"⟩ : MethodName) : Cond) := by decide +kernel
theorem w_942 : lw_tbl[942]? = some (.methodLink "GraphNames$Reader" (125) (⟨"java/lang/String", "charAt", "(I)C"⟩ : MethodName) : Cond) := by decide +kernel
theorem w_943 : lw_tbl[943]? = some (.methodLink "GraphNames$Reader" (63) (⟨"GraphNames$Reader", "fails", "(I)Z"⟩ : MethodName) : Cond) := by decide +kernel
theorem w_945 : lw_tbl[945]? = some (.instanceMethod (⟨"GraphNames$Reader", "fails", "(I)Z"⟩ : MethodName) : Cond) := by decide +kernel
theorem w_946 : lw_tbl[946]? = some (.code (⟨"GraphNames$Reader", "fails", "(I)Z"⟩) prog_7_method_11_code 2 (some .boolean) : Cond) := by decide +kernel
theorem w_947 : lw_tbl[947]? = some (.methodLink "GraphNames$Reader" (67) (⟨"GraphNames$Reader", "digit", "()I"⟩ : MethodName) : Cond) := by decide +kernel
theorem w_949 : lw_tbl[949]? = some (.instanceMethod (⟨"GraphNames$Reader", "digit", "()I"⟩ : MethodName) : Cond) := by decide +kernel
theorem w_950 : lw_tbl[950]? = some (.code (⟨"GraphNames$Reader", "digit", "()I"⟩) prog_7_method_13_code 1 (some .int) : Cond) := by decide +kernel
theorem w_951 : lw_tbl[951]? = some (.methodLink "GraphNames$Reader" (71) (⟨"GraphNames$Graph", "empty", "(I)V"⟩ : MethodName) : Cond) := by decide +kernel
theorem w_952 : lw_tbl[952]? = some (.instanceMethod (⟨"GraphNames$Graph", "empty", "(I)V"⟩ : MethodName) : Cond) := by decide +kernel
theorem w_953 : lw_tbl[953]? = some (.selects "GraphNames$Graph" (⟨"GraphNames$Graph", "empty", "(I)V"⟩ : MethodName) (⟨"GraphNames$Graph", "empty", "(I)V"⟩ : MethodName) : Cond) := by decide +kernel
theorem w_954 : lw_tbl[954]? = some (.code (⟨"GraphNames$Graph", "empty", "(I)V"⟩) prog_3_method_12_code 4 none : Cond) := by decide +kernel
theorem w_955 : lw_tbl[955]? = some (.methodLink "GraphNames$Reader" (54) (⟨"GraphNames$Reader", "readLines", "()V"⟩ : MethodName) : Cond) := by decide +kernel
theorem w_957 : lw_tbl[957]? = some (.instanceMethod (⟨"GraphNames$Reader", "readLines", "()V"⟩ : MethodName) : Cond) := by decide +kernel
theorem w_958 : lw_tbl[958]? = some (.code (⟨"GraphNames$Reader", "readLines", "()V"⟩) prog_7_method_5_code 2 none : Cond) := by decide +kernel
theorem w_959 : lw_tbl[959]? = some (.methodLink "GraphNames$Reader" (75) (⟨"GraphNames$Reader", "readLine", "()Z"⟩ : MethodName) : Cond) := by decide +kernel
theorem w_961 : lw_tbl[961]? = some (.instanceMethod (⟨"GraphNames$Reader", "readLine", "()Z"⟩ : MethodName) : Cond) := by decide +kernel
theorem w_962 : lw_tbl[962]? = some (.code (⟨"GraphNames$Reader", "readLine", "()Z"⟩) prog_7_method_6_code 1 (some .boolean) : Cond) := by decide +kernel
theorem w_964 : lw_tbl[964]? = some (.methodLink "GraphNames$Reader" (80) (⟨"GraphNames$Reader", "readPaint", "()Z"⟩ : MethodName) : Cond) := by decide +kernel
theorem w_966 : lw_tbl[966]? = some (.instanceMethod (⟨"GraphNames$Reader", "readPaint", "()Z"⟩ : MethodName) : Cond) := by decide +kernel
theorem w_967 : lw_tbl[967]? = some (.code (⟨"GraphNames$Reader", "readPaint", "()Z"⟩) prog_7_method_7_code 2 (some .boolean) : Cond) := by decide +kernel
theorem w_968 : lw_tbl[968]? = some (.methodLink "GraphNames$Reader" (96) (⟨"GraphNames$Reader", "isVertex", "()Z"⟩ : MethodName) : Cond) := by decide +kernel
theorem w_970 : lw_tbl[970]? = some (.instanceMethod (⟨"GraphNames$Reader", "isVertex", "()Z"⟩ : MethodName) : Cond) := by decide +kernel
theorem w_971 : lw_tbl[971]? = some (.code (⟨"GraphNames$Reader", "isVertex", "()Z"⟩) prog_7_method_12_code 1 (some .boolean) : Cond) := by decide +kernel
theorem w_972 : lw_tbl[972]? = some (.methodLink "GraphNames$Reader" (117) (⟨"GraphNames$Graph", "has", "(I)Z"⟩ : MethodName) : Cond) := by decide +kernel
theorem w_973 : lw_tbl[973]? = some (.methodLinkNest "GraphNames$Reader" (99) (⟨"GraphNames", "in", "(II)Z"⟩ : MethodName) "GraphNames" : Cond) := by decide +kernel
theorem w_975 : lw_tbl[975]? = some (.methodLink "GraphNames$Reader" (85) (⟨"GraphNames$Reader", "readLink", "()Z"⟩ : MethodName) : Cond) := by decide +kernel
theorem w_977 : lw_tbl[977]? = some (.instanceMethod (⟨"GraphNames$Reader", "readLink", "()Z"⟩ : MethodName) : Cond) := by decide +kernel
theorem w_978 : lw_tbl[978]? = some (.code (⟨"GraphNames$Reader", "readLink", "()Z"⟩) prog_7_method_8_code 3 (some .boolean) : Cond) := by decide +kernel
theorem w_979 : lw_tbl[979]? = some (.methodLink "GraphNames$Reader" (106) (⟨"GraphNames$Reader", "joins", "(II)Z"⟩ : MethodName) : Cond) := by decide +kernel
theorem w_981 : lw_tbl[981]? = some (.instanceMethod (⟨"GraphNames$Reader", "joins", "(II)Z"⟩ : MethodName) : Cond) := by decide +kernel
theorem w_982 : lw_tbl[982]? = some (.code (⟨"GraphNames$Reader", "joins", "(II)Z"⟩) prog_7_method_10_code 3 (some .boolean) : Cond) := by decide +kernel
theorem w_983 : lw_tbl[983]? = some (.methodLink "GraphNames$Reader" (109) (⟨"GraphNames$Graph", "join", "(III)V"⟩ : MethodName) : Cond) := by decide +kernel
theorem w_985 : lw_tbl[985]? = some (.methodLink "GraphNames$Reader" (90) (⟨"GraphNames$Reader", "readChain", "(IZ)Z"⟩ : MethodName) : Cond) := by decide +kernel
theorem w_987 : lw_tbl[987]? = some (.instanceMethod (⟨"GraphNames$Reader", "readChain", "(IZ)Z"⟩ : MethodName) : Cond) := by decide +kernel
theorem w_988 : lw_tbl[988]? = some (.code (⟨"GraphNames$Reader", "readChain", "(IZ)Z"⟩) prog_7_method_9_code 7 (some .boolean) : Cond) := by decide +kernel
theorem w_991 : lw_tbl[991]? = some (.methodLink "GraphNamesLaw" (117) (⟨"GraphNamesLaw", "text", "(LGraphNamesLaw$Draws;I)Ljava/lang/String;"⟩ : MethodName) : Cond) := by decide +kernel
theorem w_992 : lw_tbl[992]? = some (.static (⟨"GraphNamesLaw", "text", "(LGraphNamesLaw$Draws;I)Ljava/lang/String;"⟩ : MethodName) : Cond) := by decide +kernel
theorem w_993 : lw_tbl[993]? = some (.code (⟨"GraphNamesLaw", "text", "(LGraphNamesLaw$Draws;I)Ljava/lang/String;"⟩) method_3_code 10 (some (.object "java/lang/String")) : Cond) := by decide +kernel
theorem w_997 : lw_tbl[997]? = some (.methodLink "GraphNamesLaw" (36) (⟨"java/lang/StringBuilder", "<init>", "(Ljava/lang/String;)V"⟩ : MethodName) : Cond) := by decide +kernel
theorem w_998 : lw_tbl[998]? = some (.instanceMethod (⟨"java/lang/StringBuilder", "<init>", "(Ljava/lang/String;)V"⟩ : MethodName) : Cond) := by decide +kernel
theorem w_999 : lw_tbl[999]? = some (.code (⟨"java/lang/StringBuilder", "<init>", "(Ljava/lang/String;)V"⟩) prog_26_method_3_code 2 none : Cond) := by decide +kernel
theorem w_1000 : lw_tbl[1000]? = some (.methodLink "java/lang/StringBuilder" (7) (⟨"java/lang/AbstractStringBuilder", "<init>", "(Ljava/lang/String;)V"⟩ : MethodName) : Cond) := by decide +kernel
theorem w_1001 : lw_tbl[1001]? = some (.instanceMethod (⟨"java/lang/AbstractStringBuilder", "<init>", "(Ljava/lang/String;)V"⟩ : MethodName) : Cond) := by decide +kernel
theorem w_1002 : lw_tbl[1002]? = some (.code (⟨"java/lang/AbstractStringBuilder", "<init>", "(Ljava/lang/String;)V"⟩) prog_15_method_3_code 5 none : Cond) := by decide +kernel
theorem w_1004 : lw_tbl[1004]? = some (.methodLink "java/lang/AbstractStringBuilder" (32) (⟨"java/lang/String", "length", "()I"⟩ : MethodName) : Cond) := by decide +kernel
theorem w_1005 : lw_tbl[1005]? = some (.constant "java/lang/AbstractStringBuilder" 38 (2147483631) : Cond) := by decide +kernel
theorem w_1006 : lw_tbl[1006]? = some (.constant "java/lang/AbstractStringBuilder" 39 (2147483647) : Cond) := by decide +kernel
theorem w_1007 : lw_tbl[1007]? = some (.methodLink "java/lang/AbstractStringBuilder" (40) (⟨"java/lang/String", "coder", "()B"⟩ : MethodName) : Cond) := by decide +kernel
theorem w_1008 : lw_tbl[1008]? = some (.methodLink "java/lang/AbstractStringBuilder" (26) (⟨"java/lang/StringUTF16", "newBytesFor", "(I)[B"⟩ : MethodName) : Cond) := by decide +kernel
theorem w_1009 : lw_tbl[1009]? = some (.static (⟨"java/lang/StringUTF16", "newBytesFor", "(I)[B"⟩ : MethodName) : Cond) := by decide +kernel
theorem w_1010 : lw_tbl[1010]? = some (.code (⟨"java/lang/StringUTF16", "newBytesFor", "(I)[B"⟩) prog_28_method_2_code 1 (some (.array .byte)) : Cond) := by decide +kernel
theorem w_1011 : lw_tbl[1011]? = some (.methodLink "java/lang/StringUTF16" (11) (⟨"java/lang/StringUTF16", "newBytesLength", "(I)I"⟩ : MethodName) : Cond) := by decide +kernel
theorem w_1012 : lw_tbl[1012]? = some (.static (⟨"java/lang/StringUTF16", "newBytesLength", "(I)I"⟩ : MethodName) : Cond) := by decide +kernel
theorem w_1013 : lw_tbl[1013]? = some (.code (⟨"java/lang/StringUTF16", "newBytesLength", "(I)I"⟩) prog_28_method_3_code 1 (some .int) : Cond) := by decide +kernel
theorem w_1014 : lw_tbl[1014]? = some (.constant "java/lang/StringUTF16" 20 (1073741823) : Cond) := by decide +kernel
theorem w_1015 : lw_tbl[1015]? = some (.methodLink "java/lang/AbstractStringBuilder" (43) (⟨"java/lang/AbstractStringBuilder", "append", "(Ljava/lang/String;)Ljava/lang/AbstractStringBuilder;"⟩ : MethodName) : Cond) := by decide +kernel
theorem w_1016 : lw_tbl[1016]? = some (.instanceMethod (⟨"java/lang/AbstractStringBuilder", "append", "(Ljava/lang/String;)Ljava/lang/AbstractStringBuilder;"⟩ : MethodName) : Cond) := by decide +kernel
theorem w_1017 : lw_tbl[1017]? = some (.sameMethod "java/lang/AbstractStringBuilder" "java/lang/AbstractStringBuilder" "append" "(Ljava/lang/String;)Ljava/lang/AbstractStringBuilder;" : Cond) := by decide +kernel
theorem w_1018 : lw_tbl[1018]? = some (.selects "java/lang/StringBuilder" (⟨"java/lang/AbstractStringBuilder", "append", "(Ljava/lang/String;)Ljava/lang/AbstractStringBuilder;"⟩ : MethodName) (⟨"java/lang/StringBuilder", "append", "(Ljava/lang/String;)Ljava/lang/AbstractStringBuilder;"⟩ : MethodName) : Cond) := by decide +kernel
theorem w_1019 : lw_tbl[1019]? = some (.instanceMethod (⟨"java/lang/StringBuilder", "append", "(Ljava/lang/String;)Ljava/lang/AbstractStringBuilder;"⟩ : MethodName) : Cond) := by decide +kernel
theorem w_1020 : lw_tbl[1020]? = some (.code (⟨"java/lang/StringBuilder", "append", "(Ljava/lang/String;)Ljava/lang/AbstractStringBuilder;"⟩) prog_26_method_80_code 2 (some (.object "java/lang/AbstractStringBuilder")) : Cond) := by decide +kernel
theorem w_1021 : lw_tbl[1021]? = some (.methodLink "java/lang/StringBuilder" (23) (⟨"java/lang/StringBuilder", "append", "(Ljava/lang/String;)Ljava/lang/StringBuilder;"⟩ : MethodName) : Cond) := by decide +kernel
theorem w_1022 : lw_tbl[1022]? = some (.instanceMethod (⟨"java/lang/StringBuilder", "append", "(Ljava/lang/String;)Ljava/lang/StringBuilder;"⟩ : MethodName) : Cond) := by decide +kernel
theorem w_1023 : lw_tbl[1023]? = some (.selects "java/lang/StringBuilder" (⟨"java/lang/StringBuilder", "append", "(Ljava/lang/String;)Ljava/lang/StringBuilder;"⟩ : MethodName) (⟨"java/lang/StringBuilder", "append", "(Ljava/lang/String;)Ljava/lang/StringBuilder;"⟩ : MethodName) : Cond) := by decide +kernel
theorem w_1024 : lw_tbl[1024]? = some (.code (⟨"java/lang/StringBuilder", "append", "(Ljava/lang/String;)Ljava/lang/StringBuilder;"⟩) prog_26_method_7_code 2 (some (.object "java/lang/StringBuilder")) : Cond) := by decide +kernel
theorem w_1025 : lw_tbl[1025]? = some (.methodLink "java/lang/StringBuilder" (29) (⟨"java/lang/AbstractStringBuilder", "append", "(Ljava/lang/String;)Ljava/lang/AbstractStringBuilder;"⟩ : MethodName) : Cond) := by decide +kernel
theorem w_1027 : lw_tbl[1027]? = some (.code (⟨"java/lang/AbstractStringBuilder", "append", "(Ljava/lang/String;)Ljava/lang/AbstractStringBuilder;"⟩) prog_15_method_22_code 3 (some (.object "java/lang/AbstractStringBuilder")) : Cond) := by decide +kernel
theorem w_1031 : lw_tbl[1031]? = some (.code (⟨"java/lang/AbstractStringBuilder", "appendNull", "()Ljava/lang/AbstractStringBuilder;"⟩) prog_15_method_26_code 3 (some (.object "java/lang/AbstractStringBuilder")) : Cond) := by decide +kernel
theorem w_1035 : lw_tbl[1035]? = some (.code (⟨"java/lang/AbstractStringBuilder", "ensureCapacityInternal", "(I)V"⟩) prog_15_method_9_code 3 none : Cond) := by decide +kernel
theorem w_1039 : lw_tbl[1039]? = some (.code (⟨"java/lang/AbstractStringBuilder", "newCapacity", "(I)I"⟩) prog_15_method_10_code 6 (some .int) : Cond) := by decide +kernel
theorem w_1040 : lw_tbl[1040]? = some (.methodLink "java/lang/AbstractStringBuilder" (114) (⟨"jdk/internal/util/ArraysSupport", "newLength", "(III)I"⟩ : MethodName) : Cond) := by decide +kernel
theorem w_1041 : lw_tbl[1041]? = some (.static (⟨"jdk/internal/util/ArraysSupport", "newLength", "(III)I"⟩ : MethodName) : Cond) := by decide +kernel
theorem w_1042 : lw_tbl[1042]? = some (.code (⟨"jdk/internal/util/ArraysSupport", "newLength", "(III)I"⟩) prog_35_method_27_code 4 (some .int) : Cond) := by decide +kernel
theorem w_1043 : lw_tbl[1043]? = some (.methodLink "jdk/internal/util/ArraysSupport" (194) (⟨"java/lang/Math", "max", "(II)I"⟩ : MethodName) : Cond) := by decide +kernel
theorem w_1044 : lw_tbl[1044]? = some (.constant "jdk/internal/util/ArraysSupport" 200 (2147483639) : Cond) := by decide +kernel
theorem w_1045 : lw_tbl[1045]? = some (.methodLink "jdk/internal/util/ArraysSupport" (201) (⟨"jdk/internal/util/ArraysSupport", "hugeLength", "(II)I"⟩ : MethodName) : Cond) := by decide +kernel
theorem w_1046 : lw_tbl[1046]? = some (.static (⟨"jdk/internal/util/ArraysSupport", "hugeLength", "(II)I"⟩ : MethodName) : Cond) := by decide +kernel
theorem w_1047 : lw_tbl[1047]? = some (.code (⟨"jdk/internal/util/ArraysSupport", "hugeLength", "(II)I"⟩) prog_35_method_28_code 3 (some .int) : Cond) := by decide +kernel
theorem w_1048 : lw_tbl[1048]? = some (.methodLink "java/lang/AbstractStringBuilder" (108) (⟨"java/util/Arrays", "copyOf", "([BI)[B"⟩ : MethodName) : Cond) := by decide +kernel
theorem w_1049 : lw_tbl[1049]? = some (.static (⟨"java/util/Arrays", "copyOf", "([BI)[B"⟩ : MethodName) : Cond) := by decide +kernel
theorem w_1050 : lw_tbl[1050]? = some (.code (⟨"java/util/Arrays", "copyOf", "([BI)[B"⟩) prog_33_method_121_code 3 (some (.array .byte)) : Cond) := by decide +kernel
theorem w_1058 : lw_tbl[1058]? = some (.methodLink "java/util/Arrays" (304) (⟨"java/lang/Math", "min", "(II)I"⟩ : MethodName) : Cond) := by decide +kernel
theorem w_1060 : lw_tbl[1060]? = some (.methodLink "java/lang/AbstractStringBuilder" (83) (⟨"java/lang/AbstractStringBuilder", "isLatin1", "()Z"⟩ : MethodName) : Cond) := by decide +kernel
theorem w_1061 : lw_tbl[1061]? = some (.instanceMethod (⟨"java/lang/AbstractStringBuilder", "isLatin1", "()Z"⟩ : MethodName) : Cond) := by decide +kernel
theorem w_1062 : lw_tbl[1062]? = some (.sameMethod "java/lang/AbstractStringBuilder" "java/lang/AbstractStringBuilder" "isLatin1" "()Z" : Cond) := by decide +kernel
theorem w_1063 : lw_tbl[1063]? = some (.selects "java/lang/StringBuilder" (⟨"java/lang/AbstractStringBuilder", "isLatin1", "()Z"⟩ : MethodName) (⟨"java/lang/AbstractStringBuilder", "isLatin1", "()Z"⟩ : MethodName) : Cond) := by decide +kernel
theorem w_1064 : lw_tbl[1064]? = some (.code (⟨"java/lang/AbstractStringBuilder", "isLatin1", "()Z"⟩) prog_15_method_68_code 1 (some .boolean) : Cond) := by decide +kernel
theorem w_1066 : lw_tbl[1066]? = some (.methodLink "java/lang/AbstractStringBuilder" (226) (⟨"java/lang/StringUTF16", "putCharsAt", "([BICCCC)I"⟩ : MethodName) : Cond) := by decide +kernel
theorem w_1067 : lw_tbl[1067]? = some (.static (⟨"java/lang/StringUTF16", "putCharsAt", "([BICCCC)I"⟩ : MethodName) : Cond) := by decide +kernel
theorem w_1068 : lw_tbl[1068]? = some (.code (⟨"java/lang/StringUTF16", "putCharsAt", "([BICCCC)I"⟩) prog_28_method_81_code 7 (some .int) : Cond) := by decide +kernel
theorem w_1069 : lw_tbl[1069]? = some (.methodLink "java/lang/StringUTF16" (96) (⟨"java/lang/StringUTF16", "checkBoundsBeginEnd", "(II[B)V"⟩ : MethodName) : Cond) := by decide +kernel
theorem w_1070 : lw_tbl[1070]? = some (.static (⟨"java/lang/StringUTF16", "checkBoundsBeginEnd", "(II[B)V"⟩ : MethodName) : Cond) := by decide +kernel
theorem w_1071 : lw_tbl[1071]? = some (.code (⟨"java/lang/StringUTF16", "checkBoundsBeginEnd", "(II[B)V"⟩) prog_28_method_93_code 3 none : Cond) := by decide +kernel
theorem w_1072 : lw_tbl[1072]? = some (.methodLink "java/lang/StringUTF16" (241) (⟨"java/lang/String", "checkBoundsBeginEnd", "(III)V"⟩ : MethodName) : Cond) := by decide +kernel
theorem w_1073 : lw_tbl[1073]? = some (.static (⟨"java/lang/String", "checkBoundsBeginEnd", "(III)V"⟩ : MethodName) : Cond) := by decide +kernel
theorem w_1074 : lw_tbl[1074]? = some (.code (⟨"java/lang/String", "checkBoundsBeginEnd", "(III)V"⟩) prog_25_method_158_code 3 none : Cond) := by decide +kernel
theorem w_1075 : lw_tbl[1075]? = some (.methodLink "java/lang/String" (1062) (⟨"jdk/internal/util/Preconditions", "checkFromToIndex", "(IIILjava/util/function/BiFunction;)I"⟩ : MethodName) : Cond) := by decide +kernel
theorem w_1076 : lw_tbl[1076]? = some (.static (⟨"jdk/internal/util/Preconditions", "checkFromToIndex", "(IIILjava/util/function/BiFunction;)I"⟩ : MethodName) : Cond) := by decide +kernel
theorem w_1077 : lw_tbl[1077]? = some (.code (⟨"jdk/internal/util/Preconditions", "checkFromToIndex", "(IIILjava/util/function/BiFunction;)I"⟩) prog_36_method_12_code 4 (some .int) : Cond) := by decide +kernel
theorem w_1078 : lw_tbl[1078]? = some (.methodLink "java/lang/StringUTF16" (111) (⟨"java/lang/StringUTF16", "putChar", "([BII)V"⟩ : MethodName) : Cond) := by decide +kernel
theorem w_1079 : lw_tbl[1079]? = some (.static (⟨"java/lang/StringUTF16", "putChar", "([BII)V"⟩ : MethodName) : Cond) := by decide +kernel
theorem w_1080 : lw_tbl[1080]? = some (.code (⟨"java/lang/StringUTF16", "putChar", "([BII)V"⟩) prog_28_method_4_code 3 none : Cond) := by decide +kernel
theorem w_1084 : lw_tbl[1084]? = some (.code (⟨"java/lang/AbstractStringBuilder", "putStringAt", "(ILjava/lang/String;)V"⟩) prog_15_method_73_code 3 none : Cond) := by decide +kernel
theorem w_1088 : lw_tbl[1088]? = some (.code (⟨"java/lang/AbstractStringBuilder", "inflateIfNeededFor", "(Ljava/lang/String;)V"⟩) prog_15_method_71_code 2 none : Cond) := by decide +kernel
theorem w_1092 : lw_tbl[1092]? = some (.code (⟨"java/lang/AbstractStringBuilder", "inflate", "()V"⟩) prog_15_method_11_code 2 none : Cond) := by decide +kernel
theorem w_1093 : lw_tbl[1093]? = some (.methodLink "java/lang/AbstractStringBuilder" (125) (⟨"java/lang/StringLatin1", "inflate", "([BI[BII)V"⟩ : MethodName) : Cond) := by decide +kernel
theorem w_1094 : lw_tbl[1094]? = some (.static (⟨"java/lang/StringLatin1", "inflate", "([BI[BII)V"⟩ : MethodName) : Cond) := by decide +kernel
theorem w_1095 : lw_tbl[1095]? = some (.code (⟨"java/lang/StringLatin1", "inflate", "([BI[BII)V"⟩) prog_27_method_50_code 5 none : Cond) := by decide +kernel
theorem w_1096 : lw_tbl[1096]? = some (.methodLink "java/lang/StringLatin1" (240) (⟨"java/lang/StringUTF16", "inflate", "([BI[BII)V"⟩ : MethodName) : Cond) := by decide +kernel
theorem w_1097 : lw_tbl[1097]? = some (.static (⟨"java/lang/StringUTF16", "inflate", "([BI[BII)V"⟩ : MethodName) : Cond) := by decide +kernel
theorem w_1098 : lw_tbl[1098]? = some (.code (⟨"java/lang/StringUTF16", "inflate", "([BI[BII)V"⟩) prog_28_method_86_code 6 none : Cond) := by decide +kernel
theorem w_1099 : lw_tbl[1099]? = some (.methodLink "java/lang/StringUTF16" (173) (⟨"java/lang/StringUTF16", "checkBoundsOffCount", "(II[B)V"⟩ : MethodName) : Cond) := by decide +kernel
theorem w_1100 : lw_tbl[1100]? = some (.static (⟨"java/lang/StringUTF16", "checkBoundsOffCount", "(II[B)V"⟩ : MethodName) : Cond) := by decide +kernel
theorem w_1101 : lw_tbl[1101]? = some (.code (⟨"java/lang/StringUTF16", "checkBoundsOffCount", "(II[B)V"⟩) prog_28_method_94_code 3 none : Cond) := by decide +kernel
theorem w_1102 : lw_tbl[1102]? = some (.methodLink "java/lang/StringUTF16" (419) (⟨"java/lang/String", "checkBoundsOffCount", "(III)I"⟩ : MethodName) : Cond) := by decide +kernel
theorem w_1103 : lw_tbl[1103]? = some (.static (⟨"java/lang/String", "checkBoundsOffCount", "(III)I"⟩ : MethodName) : Cond) := by decide +kernel
theorem w_1104 : lw_tbl[1104]? = some (.code (⟨"java/lang/String", "checkBoundsOffCount", "(III)I"⟩) prog_25_method_157_code 3 (some .int) : Cond) := by decide +kernel
theorem w_1105 : lw_tbl[1105]? = some (.methodLink "java/lang/String" (1065) (⟨"jdk/internal/util/Preconditions", "checkFromIndexSize", "(IIILjava/util/function/BiFunction;)I"⟩ : MethodName) : Cond) := by decide +kernel
theorem w_1106 : lw_tbl[1106]? = some (.static (⟨"jdk/internal/util/Preconditions", "checkFromIndexSize", "(IIILjava/util/function/BiFunction;)I"⟩ : MethodName) : Cond) := by decide +kernel
theorem w_1107 : lw_tbl[1107]? = some (.code (⟨"jdk/internal/util/Preconditions", "checkFromIndexSize", "(IIILjava/util/function/BiFunction;)I"⟩) prog_36_method_13_code 4 (some .int) : Cond) := by decide +kernel
theorem w_1108 : lw_tbl[1108]? = some (.methodLink "java/lang/AbstractStringBuilder" (399) (⟨"java/lang/String", "getBytes", "([BIB)V"⟩ : MethodName) : Cond) := by decide +kernel
theorem w_1109 : lw_tbl[1109]? = some (.instanceMethod (⟨"java/lang/String", "getBytes", "([BIB)V"⟩ : MethodName) : Cond) := by decide +kernel
theorem w_1110 : lw_tbl[1110]? = some (.selects "java/lang/String" (⟨"java/lang/String", "getBytes", "([BIB)V"⟩ : MethodName) (⟨"java/lang/String", "getBytes", "([BIB)V"⟩ : MethodName) : Cond) := by decide +kernel
theorem w_1111 : lw_tbl[1111]? = some (.code (⟨"java/lang/String", "getBytes", "([BIB)V"⟩) prog_25_method_147_code 4 none : Cond) := by decide +kernel
theorem w_1113 : lw_tbl[1113]? = some (.methodLink "java/lang/String" (106) (⟨"java/lang/StringLatin1", "inflate", "([BI[BII)V"⟩ : MethodName) : Cond) := by decide +kernel
theorem w_1114 : lw_tbl[1114]? = some (.fieldLink "java/lang/AbstractStringBuilder" (15) "java/lang/AbstractStringBuilder" "value" "[B" : Cond) := by decide +kernel
theorem w_1115 : lw_tbl[1115]? = some (.fieldLink "java/lang/AbstractStringBuilder" (22) "java/lang/AbstractStringBuilder" "coder" "B" : Cond) := by decide +kernel
theorem w_1116 : lw_tbl[1116]? = some (.fieldLink "java/lang/String" (1048) "java/lang/AbstractStringBuilder" "maybeLatin1" "Z" : Cond) := by decide +kernel
theorem w_1117 : lw_tbl[1117]? = some (.fieldLink "java/lang/AbstractStringBuilder" (79) "java/lang/AbstractStringBuilder" "count" "I" : Cond) := by decide +kernel
theorem w_1126 : lw_tbl[1126]? = some (.methodLink "GraphNamesLaw" (39) (⟨"java/lang/StringBuilder", "append", "(I)Ljava/lang/StringBuilder;"⟩ : MethodName) : Cond) := by decide +kernel
theorem w_1127 : lw_tbl[1127]? = some (.instanceMethod (⟨"java/lang/StringBuilder", "append", "(I)Ljava/lang/StringBuilder;"⟩ : MethodName) : Cond) := by decide +kernel
theorem w_1128 : lw_tbl[1128]? = some (.selects "java/lang/StringBuilder" (⟨"java/lang/StringBuilder", "append", "(I)Ljava/lang/StringBuilder;"⟩ : MethodName) (⟨"java/lang/StringBuilder", "append", "(I)Ljava/lang/StringBuilder;"⟩ : MethodName) : Cond) := by decide +kernel
theorem w_1129 : lw_tbl[1129]? = some (.code (⟨"java/lang/StringBuilder", "append", "(I)Ljava/lang/StringBuilder;"⟩) prog_26_method_15_code 2 (some (.object "java/lang/StringBuilder")) : Cond) := by decide +kernel
theorem w_1130 : lw_tbl[1130]? = some (.methodLink "java/lang/StringBuilder" (53) (⟨"java/lang/AbstractStringBuilder", "append", "(I)Ljava/lang/AbstractStringBuilder;"⟩ : MethodName) : Cond) := by decide +kernel
theorem w_1131 : lw_tbl[1131]? = some (.instanceMethod (⟨"java/lang/AbstractStringBuilder", "append", "(I)Ljava/lang/AbstractStringBuilder;"⟩ : MethodName) : Cond) := by decide +kernel
theorem w_1132 : lw_tbl[1132]? = some (.code (⟨"java/lang/AbstractStringBuilder", "append", "(I)Ljava/lang/AbstractStringBuilder;"⟩) prog_15_method_32_code 4 (some (.object "java/lang/AbstractStringBuilder")) : Cond) := by decide +kernel
theorem w_1133 : lw_tbl[1133]? = some (.methodLink "java/lang/AbstractStringBuilder" (245) (⟨"java/lang/Integer", "stringSize", "(I)I"⟩ : MethodName) : Cond) := by decide +kernel
theorem w_1134 : lw_tbl[1134]? = some (.static (⟨"java/lang/Integer", "stringSize", "(I)I"⟩ : MethodName) : Cond) := by decide +kernel
theorem w_1135 : lw_tbl[1135]? = some (.code (⟨"java/lang/Integer", "stringSize", "(I)I"⟩) prog_21_method_13_code 4 (some .int) : Cond) := by decide +kernel
theorem w_1136 : lw_tbl[1136]? = some (.methodLink "java/lang/AbstractStringBuilder" (248) (⟨"java/lang/Integer", "getChars", "(II[B)I"⟩ : MethodName) : Cond) := by decide +kernel
theorem w_1137 : lw_tbl[1137]? = some (.static (⟨"java/lang/Integer", "getChars", "(II[B)I"⟩ : MethodName) : Cond) := by decide +kernel
theorem w_1138 : lw_tbl[1138]? = some (.code (⟨"java/lang/Integer", "getChars", "(II[B)I"⟩) prog_21_method_12_code 7 (some .int) : Cond) := by decide +kernel
theorem w_1143 : lw_tbl[1143]? = some (.methodLink "java/lang/AbstractStringBuilder" (251) (⟨"java/lang/StringUTF16", "getChars", "(III[B)I"⟩ : MethodName) : Cond) := by decide +kernel
theorem w_1144 : lw_tbl[1144]? = some (.static (⟨"java/lang/StringUTF16", "getChars", "(III[B)I"⟩ : MethodName) : Cond) := by decide +kernel
theorem w_1145 : lw_tbl[1145]? = some (.code (⟨"java/lang/StringUTF16", "getChars", "(III[B)I"⟩) prog_28_method_77_code 5 (some .int) : Cond) := by decide +kernel
theorem w_1146 : lw_tbl[1146]? = some (.methodLink "java/lang/StringUTF16" (393) (⟨"java/lang/StringUTF16", "getChars", "(II[B)I"⟩ : MethodName) : Cond) := by decide +kernel
theorem w_1147 : lw_tbl[1147]? = some (.static (⟨"java/lang/StringUTF16", "getChars", "(II[B)I"⟩ : MethodName) : Cond) := by decide +kernel
theorem w_1148 : lw_tbl[1148]? = some (.code (⟨"java/lang/StringUTF16", "getChars", "(II[B)I"⟩) prog_28_method_89_code 7 (some .int) : Cond) := by decide +kernel
theorem w_1152 : lw_tbl[1152]? = some (.methodLink "GraphNamesLaw" (45) (⟨"java/lang/StringBuilder", "append", "(Ljava/lang/String;)Ljava/lang/StringBuilder;"⟩ : MethodName) : Cond) := by decide +kernel
theorem w_1153 : lw_tbl[1153]? = some (.methodLink "GraphNamesLaw" (48) (⟨"java/lang/StringBuilder", "append", "(C)Ljava/lang/StringBuilder;"⟩ : MethodName) : Cond) := by decide +kernel
theorem w_1154 : lw_tbl[1154]? = some (.instanceMethod (⟨"java/lang/StringBuilder", "append", "(C)Ljava/lang/StringBuilder;"⟩ : MethodName) : Cond) := by decide +kernel
theorem w_1155 : lw_tbl[1155]? = some (.selects "java/lang/StringBuilder" (⟨"java/lang/StringBuilder", "append", "(C)Ljava/lang/StringBuilder;"⟩ : MethodName) (⟨"java/lang/StringBuilder", "append", "(C)Ljava/lang/StringBuilder;"⟩ : MethodName) : Cond) := by decide +kernel
theorem w_1156 : lw_tbl[1156]? = some (.code (⟨"java/lang/StringBuilder", "append", "(C)Ljava/lang/StringBuilder;"⟩) prog_26_method_14_code 2 (some (.object "java/lang/StringBuilder")) : Cond) := by decide +kernel
theorem w_1157 : lw_tbl[1157]? = some (.methodLink "java/lang/StringBuilder" (50) (⟨"java/lang/AbstractStringBuilder", "append", "(C)Ljava/lang/AbstractStringBuilder;"⟩ : MethodName) : Cond) := by decide +kernel
theorem w_1158 : lw_tbl[1158]? = some (.instanceMethod (⟨"java/lang/AbstractStringBuilder", "append", "(C)Ljava/lang/AbstractStringBuilder;"⟩ : MethodName) : Cond) := by decide +kernel
theorem w_1159 : lw_tbl[1159]? = some (.code (⟨"java/lang/AbstractStringBuilder", "append", "(C)Ljava/lang/AbstractStringBuilder;"⟩) prog_15_method_31_code 2 (some (.object "java/lang/AbstractStringBuilder")) : Cond) := by decide +kernel
theorem w_1160 : lw_tbl[1160]? = some (.methodLink "java/lang/AbstractStringBuilder" (191) (⟨"java/lang/StringLatin1", "canEncode", "(C)Z"⟩ : MethodName) : Cond) := by decide +kernel
theorem w_1161 : lw_tbl[1161]? = some (.static (⟨"java/lang/StringLatin1", "canEncode", "(C)Z"⟩ : MethodName) : Cond) := by decide +kernel
theorem w_1162 : lw_tbl[1162]? = some (.code (⟨"java/lang/StringLatin1", "canEncode", "(C)Z"⟩) prog_27_method_3_code 1 (some .boolean) : Cond) := by decide +kernel
theorem w_1163 : lw_tbl[1163]? = some (.methodLink "java/lang/AbstractStringBuilder" (197) (⟨"java/lang/StringUTF16", "putCharSB", "([BII)V"⟩ : MethodName) : Cond) := by decide +kernel
theorem w_1164 : lw_tbl[1164]? = some (.static (⟨"java/lang/StringUTF16", "putCharSB", "([BII)V"⟩ : MethodName) : Cond) := by decide +kernel
theorem w_1165 : lw_tbl[1165]? = some (.code (⟨"java/lang/StringUTF16", "putCharSB", "([BII)V"⟩) prog_28_method_71_code 3 none : Cond) := by decide +kernel
theorem w_1167 : lw_tbl[1167]? = some (.methodLink "GraphNamesLaw" (53) (⟨"java/lang/StringBuilder", "toString", "()Ljava/lang/String;"⟩ : MethodName) : Cond) := by decide +kernel
theorem w_1168 : lw_tbl[1168]? = some (.instanceMethod (⟨"java/lang/StringBuilder", "toString", "()Ljava/lang/String;"⟩ : MethodName) : Cond) := by decide +kernel
theorem w_1169 : lw_tbl[1169]? = some (.selects "java/lang/StringBuilder" (⟨"java/lang/StringBuilder", "toString", "()Ljava/lang/String;"⟩ : MethodName) (⟨"java/lang/StringBuilder", "toString", "()Ljava/lang/String;"⟩ : MethodName) : Cond) := by decide +kernel
theorem w_1170 : lw_tbl[1170]? = some (.code (⟨"java/lang/StringBuilder", "toString", "()Ljava/lang/String;"⟩) prog_26_method_42_code 1 (some (.object "java/lang/String")) : Cond) := by decide +kernel
theorem w_1173 : lw_tbl[1173]? = some (.methodLink "java/lang/StringBuilder" (137) (⟨"java/lang/String", "<init>", "(Ljava/lang/StringBuilder;)V"⟩ : MethodName) : Cond) := by decide +kernel
theorem w_1174 : lw_tbl[1174]? = some (.instanceMethod (⟨"java/lang/String", "<init>", "(Ljava/lang/StringBuilder;)V"⟩ : MethodName) : Cond) := by decide +kernel
theorem w_1175 : lw_tbl[1175]? = some (.code (⟨"java/lang/String", "<init>", "(Ljava/lang/StringBuilder;)V"⟩) prog_25_method_53_code 2 none : Cond) := by decide +kernel
theorem w_1176 : lw_tbl[1176]? = some (.methodLink "java/lang/String" (489) (⟨"java/lang/String", "<init>", "(Ljava/lang/AbstractStringBuilder;Ljava/lang/Void;)V"⟩ : MethodName) : Cond) := by decide +kernel
theorem w_1177 : lw_tbl[1177]? = some (.instanceMethod (⟨"java/lang/String", "<init>", "(Ljava/lang/AbstractStringBuilder;Ljava/lang/Void;)V"⟩ : MethodName) : Cond) := by decide +kernel
theorem w_1178 : lw_tbl[1178]? = some (.code (⟨"java/lang/String", "<init>", "(Ljava/lang/AbstractStringBuilder;Ljava/lang/Void;)V"⟩) prog_25_method_150_code 5 none : Cond) := by decide +kernel
theorem w_1180 : lw_tbl[1180]? = some (.methodLink "java/lang/String" (552) (⟨"java/lang/AbstractStringBuilder", "getValue", "()[B"⟩ : MethodName) : Cond) := by decide +kernel
theorem w_1181 : lw_tbl[1181]? = some (.instanceMethod (⟨"java/lang/AbstractStringBuilder", "getValue", "()[B"⟩ : MethodName) : Cond) := by decide +kernel
theorem w_1182 : lw_tbl[1182]? = some (.sameMethod "java/lang/AbstractStringBuilder" "java/lang/AbstractStringBuilder" "getValue" "()[B" : Cond) := by decide +kernel
theorem w_1183 : lw_tbl[1183]? = some (.selects "java/lang/StringBuilder" (⟨"java/lang/AbstractStringBuilder", "getValue", "()[B"⟩ : MethodName) (⟨"java/lang/AbstractStringBuilder", "getValue", "()[B"⟩ : MethodName) : Cond) := by decide +kernel
theorem w_1184 : lw_tbl[1184]? = some (.code (⟨"java/lang/AbstractStringBuilder", "getValue", "()[B"⟩) prog_15_method_64_code 1 (some (.array .byte)) : Cond) := by decide +kernel
theorem w_1185 : lw_tbl[1185]? = some (.methodLink "java/lang/String" (549) (⟨"java/lang/AbstractStringBuilder", "length", "()I"⟩ : MethodName) : Cond) := by decide +kernel
theorem w_1186 : lw_tbl[1186]? = some (.instanceMethod (⟨"java/lang/AbstractStringBuilder", "length", "()I"⟩ : MethodName) : Cond) := by decide +kernel
theorem w_1187 : lw_tbl[1187]? = some (.sameMethod "java/lang/AbstractStringBuilder" "java/lang/AbstractStringBuilder" "length" "()I" : Cond) := by decide +kernel
theorem w_1188 : lw_tbl[1188]? = some (.selects "java/lang/StringBuilder" (⟨"java/lang/AbstractStringBuilder", "length", "()I"⟩ : MethodName) (⟨"java/lang/StringBuilder", "length", "()I"⟩ : MethodName) : Cond) := by decide +kernel
theorem w_1189 : lw_tbl[1189]? = some (.instanceMethod (⟨"java/lang/StringBuilder", "length", "()I"⟩ : MethodName) : Cond) := by decide +kernel
theorem w_1190 : lw_tbl[1190]? = some (.code (⟨"java/lang/StringBuilder", "length", "()I"⟩) prog_26_method_93_code 1 (some .int) : Cond) := by decide +kernel
theorem w_1191 : lw_tbl[1191]? = some (.methodLink "java/lang/StringBuilder" (343) (⟨"java/lang/AbstractStringBuilder", "length", "()I"⟩ : MethodName) : Cond) := by decide +kernel
theorem w_1192 : lw_tbl[1192]? = some (.code (⟨"java/lang/AbstractStringBuilder", "length", "()I"⟩) prog_15_method_6_code 1 (some .int) : Cond) := by decide +kernel
theorem w_1193 : lw_tbl[1193]? = some (.methodLink "java/lang/String" (1047) (⟨"java/lang/AbstractStringBuilder", "isLatin1", "()Z"⟩ : MethodName) : Cond) := by decide +kernel
theorem w_1194 : lw_tbl[1194]? = some (.methodLink "java/lang/String" (54) (⟨"java/util/Arrays", "copyOfRange", "([BII)[B"⟩ : MethodName) : Cond) := by decide +kernel
theorem w_1195 : lw_tbl[1195]? = some (.static (⟨"java/util/Arrays", "copyOfRange", "([BII)[B"⟩ : MethodName) : Cond) := by decide +kernel
theorem w_1196 : lw_tbl[1196]? = some (.code (⟨"java/util/Arrays", "copyOfRange", "([BII)[B"⟩) prog_33_method_132_code 3 (some (.array .byte)) : Cond) := by decide +kernel
theorem w_1197 : lw_tbl[1197]? = some (.methodLink "java/util/Arrays" (339) (⟨"java/util/Arrays", "copyOfRangeByte", "([BII)[B"⟩ : MethodName) : Cond) := by decide +kernel
theorem w_1198 : lw_tbl[1198]? = some (.static (⟨"java/util/Arrays", "copyOfRangeByte", "([BII)[B"⟩ : MethodName) : Cond) := by decide +kernel
theorem w_1199 : lw_tbl[1199]? = some (.code (⟨"java/util/Arrays", "copyOfRangeByte", "([BII)[B"⟩) prog_33_method_133_code 5 (some (.array .byte)) : Cond) := by decide +kernel
theorem w_1200 : lw_tbl[1200]? = some (.methodLink "java/util/Arrays" (343) (⟨"java/util/Arrays", "checkLength", "(II)V"⟩ : MethodName) : Cond) := by decide +kernel
theorem w_1201 : lw_tbl[1201]? = some (.static (⟨"java/util/Arrays", "checkLength", "(II)V"⟩ : MethodName) : Cond) := by decide +kernel
theorem w_1202 : lw_tbl[1202]? = some (.code (⟨"java/util/Arrays", "checkLength", "(II)V"⟩) prog_33_method_131_code 2 none : Cond) := by decide +kernel
theorem w_1203 : lw_tbl[1203]? = some (.methodLink "java/lang/String" (1051) (⟨"java/lang/StringUTF16", "compress", "([BII)[B"⟩ : MethodName) : Cond) := by decide +kernel
theorem w_1204 : lw_tbl[1204]? = some (.static (⟨"java/lang/StringUTF16", "compress", "([BII)[B"⟩ : MethodName) : Cond) := by decide +kernel
theorem w_1205 : lw_tbl[1205]? = some (.code (⟨"java/lang/StringUTF16", "compress", "([BII)[B"⟩) prog_28_method_17_code 6 (some (.array .byte)) : Cond) := by decide +kernel
theorem w_1206 : lw_tbl[1206]? = some (.methodLink "java/lang/StringUTF16" (123) (⟨"java/lang/StringUTF16", "compress", "([BI[BII)I"⟩ : MethodName) : Cond) := by decide +kernel
theorem w_1207 : lw_tbl[1207]? = some (.static (⟨"java/lang/StringUTF16", "compress", "([BI[BII)I"⟩ : MethodName) : Cond) := by decide +kernel
theorem w_1208 : lw_tbl[1208]? = some (.code (⟨"java/lang/StringUTF16", "compress", "([BI[BII)I"⟩) prog_28_method_22_code 7 (some .int) : Cond) := by decide +kernel
theorem w_1209 : lw_tbl[1209]? = some (.methodLink "java/lang/StringUTF16" (126) (⟨"java/util/Arrays", "copyOfRange", "([BII)[B"⟩ : MethodName) : Cond) := by decide +kernel
theorem w_1210 : lw_tbl[1210]? = some (.methodLink "java/lang/String" (47) (⟨"java/lang/StringUTF16", "coderFromArrayLen", "([BI)B"⟩ : MethodName) : Cond) := by decide +kernel
theorem w_1211 : lw_tbl[1211]? = some (.static (⟨"java/lang/StringUTF16", "coderFromArrayLen", "([BI)B"⟩ : MethodName) : Cond) := by decide +kernel
theorem w_1212 : lw_tbl[1212]? = some (.code (⟨"java/lang/StringUTF16", "coderFromArrayLen", "([BI)B"⟩) prog_28_method_15_code 2 (some .byte) : Cond) := by decide +kernel
theorem w_1213 : lw_tbl[1213]? = some (.fieldLink "java/lang/String" (9) "java/lang/String" "value" "[B" : Cond) := by decide +kernel
theorem w_1214 : lw_tbl[1214]? = some (.fieldLink "java/lang/String" (15) "java/lang/String" "coder" "B" : Cond) := by decide +kernel
theorem w_1226 : lw_tbl[1226]? = some (.methodLink "GraphNamesLaw" (61) (⟨"java/lang/StringBuilder", "<init>", "()V"⟩ : MethodName) : Cond) := by decide +kernel
theorem w_1227 : lw_tbl[1227]? = some (.instanceMethod (⟨"java/lang/StringBuilder", "<init>", "()V"⟩ : MethodName) : Cond) := by decide +kernel
theorem w_1228 : lw_tbl[1228]? = some (.code (⟨"java/lang/StringBuilder", "<init>", "()V"⟩) prog_26_method_1_code 1 none : Cond) := by decide +kernel
theorem w_1229 : lw_tbl[1229]? = some (.methodLink "java/lang/StringBuilder" (1) (⟨"java/lang/AbstractStringBuilder", "<init>", "(I)V"⟩ : MethodName) : Cond) := by decide +kernel
theorem w_1230 : lw_tbl[1230]? = some (.instanceMethod (⟨"java/lang/AbstractStringBuilder", "<init>", "(I)V"⟩ : MethodName) : Cond) := by decide +kernel
theorem w_1231 : lw_tbl[1231]? = some (.code (⟨"java/lang/AbstractStringBuilder", "<init>", "(I)V"⟩) prog_15_method_2_code 2 none : Cond) := by decide +kernel
theorem w_1233 : lw_tbl[1233]? = some (.methodLink "GraphNamesLaw" (135) (⟨"GraphNamesLaw", "cells", "(LGraphNames;I)Z"⟩ : MethodName) : Cond) := by decide +kernel
theorem w_1234 : lw_tbl[1234]? = some (.static (⟨"GraphNamesLaw", "cells", "(LGraphNames;I)Z"⟩ : MethodName) : Cond) := by decide +kernel
theorem w_1235 : lw_tbl[1235]? = some (.code (⟨"GraphNamesLaw", "cells", "(LGraphNames;I)Z"⟩) method_5_code 13 (some .boolean) : Cond) := by decide +kernel
theorem w_1236 : lw_tbl[1236]? = some (.methodLink "GraphNamesLaw" (71) (⟨"GraphNames", "start", "(II)I"⟩ : MethodName) : Cond) := by decide +kernel
theorem w_1237 : lw_tbl[1237]? = some (.instanceMethod (⟨"GraphNames", "start", "(II)I"⟩ : MethodName) : Cond) := by decide +kernel
theorem w_1238 : lw_tbl[1238]? = some (.selects "GraphNames" (⟨"GraphNames", "start", "(II)I"⟩ : MethodName) (⟨"GraphNames", "start", "(II)I"⟩ : MethodName) : Cond) := by decide +kernel
theorem w_1239 : lw_tbl[1239]? = some (.code (⟨"GraphNames", "start", "(II)I"⟩) prog_1_method_10_code 5 (some .int) : Cond) := by decide +kernel
theorem w_1240 : lw_tbl[1240]? = some (.methodLink "GraphNames" (159) (⟨"GraphNames$Cells", "refine", "(LGraphNames$Graph;)V"⟩ : MethodName) : Cond) := by decide +kernel
theorem w_1241 : lw_tbl[1241]? = some (.methodLink "GraphNames" (165) (⟨"GraphNames$Cells", "target", "()I"⟩ : MethodName) : Cond) := by decide +kernel
theorem w_1242 : lw_tbl[1242]? = some (.methodLink "GraphNamesLaw" (74) (⟨"GraphNames", "cell", "(II)I"⟩ : MethodName) : Cond) := by decide +kernel
theorem w_1243 : lw_tbl[1243]? = some (.instanceMethod (⟨"GraphNames", "cell", "(II)I"⟩ : MethodName) : Cond) := by decide +kernel
theorem w_1244 : lw_tbl[1244]? = some (.selects "GraphNames" (⟨"GraphNames", "cell", "(II)I"⟩ : MethodName) (⟨"GraphNames", "cell", "(II)I"⟩ : MethodName) : Cond) := by decide +kernel
theorem w_1245 : lw_tbl[1245]? = some (.code (⟨"GraphNames", "cell", "(II)I"⟩) prog_1_method_11_code 4 (some .int) : Cond) := by decide +kernel
theorem w_1246 : lw_tbl[1246]? = some (.methodLink "GraphNames" (168) (⟨"GraphNames$Cells", "begin", "(LGraphNames$Graph;)V"⟩ : MethodName) : Cond) := by decide +kernel
theorem w_1247 : lw_tbl[1247]? = some (.methodLink "GraphNamesLaw" (77) (⟨"java/lang/Integer", "numberOfTrailingZeros", "(I)I"⟩ : MethodName) : Cond) := by decide +kernel
theorem w_1248 : lw_tbl[1248]? = some (.methodLink "GraphNamesLaw" (86) (⟨"java/lang/Integer", "bitCount", "(I)I"⟩ : MethodName) : Cond) := by decide +kernel
theorem w_1249 : lw_tbl[1249]? = some (.methodLink "GraphNamesLaw" (92) (⟨"GraphNamesLaw", "seen", "(LGraphNames;IIII)I"⟩ : MethodName) : Cond) := by decide +kernel
theorem w_1250 : lw_tbl[1250]? = some (.static (⟨"GraphNamesLaw", "seen", "(LGraphNames;IIII)I"⟩ : MethodName) : Cond) := by decide +kernel
theorem w_1251 : lw_tbl[1251]? = some (.code (⟨"GraphNamesLaw", "seen", "(LGraphNames;IIII)I"⟩) method_4_code 7 (some .int) : Cond) := by decide +kernel
theorem w_1252 : lw_tbl[1252]? = some (.methodLink "GraphNamesLaw" (101) (⟨"GraphNames", "base", "(II)I"⟩ : MethodName) : Cond) := by decide +kernel
theorem w_1253 : lw_tbl[1253]? = some (.instanceMethod (⟨"GraphNames", "base", "(II)I"⟩ : MethodName) : Cond) := by decide +kernel
theorem w_1254 : lw_tbl[1254]? = some (.selects "GraphNames" (⟨"GraphNames", "base", "(II)I"⟩ : MethodName) (⟨"GraphNames", "base", "(II)I"⟩ : MethodName) : Cond) := by decide +kernel
theorem w_1255 : lw_tbl[1255]? = some (.code (⟨"GraphNames", "base", "(II)I"⟩) prog_1_method_28_code 4 (some .int) : Cond) := by decide +kernel
theorem w_1256 : lw_tbl[1256]? = some (.methodLink "GraphNames" (286) (⟨"GraphNames", "cellsWith", "(LGraphNames$Graph;I)I"⟩ : MethodName) : Cond) := by decide +kernel
theorem w_1258 : lw_tbl[1258]? = some (.instanceMethod (⟨"GraphNames", "cellsWith", "(LGraphNames$Graph;I)I"⟩ : MethodName) : Cond) := by decide +kernel
theorem w_1259 : lw_tbl[1259]? = some (.code (⟨"GraphNames", "cellsWith", "(LGraphNames$Graph;I)I"⟩) prog_1_method_52_code 4 (some .int) : Cond) := by decide +kernel
theorem w_1260 : lw_tbl[1260]? = some (.methodLink "GraphNames" (332) (⟨"GraphNames$Cells", "take", "(LGraphNames$Cells;)V"⟩ : MethodName) : Cond) := by decide +kernel
theorem w_1261 : lw_tbl[1261]? = some (.methodLink "GraphNames" (174) (⟨"GraphNames", "in", "(II)Z"⟩ : MethodName) : Cond) := by decide +kernel
theorem w_1262 : lw_tbl[1262]? = some (.methodLink "GraphNames" (178) (⟨"GraphNames$Cells", "putAhead", "(I)V"⟩ : MethodName) : Cond) := by decide +kernel
theorem w_1263 : lw_tbl[1263]? = some (.methodLink "GraphNamesLaw" (139) (⟨"GraphNamesLaw", "name", "(LGraphNames;I)Z"⟩ : MethodName) : Cond) := by decide +kernel
theorem w_1264 : lw_tbl[1264]? = some (.static (⟨"GraphNamesLaw", "name", "(LGraphNames;I)Z"⟩ : MethodName) : Cond) := by decide +kernel
theorem w_1265 : lw_tbl[1265]? = some (.code (⟨"GraphNamesLaw", "name", "(LGraphNames;I)Z"⟩) method_6_code 7 (some .boolean) : Cond) := by decide +kernel
theorem w_1266 : lw_tbl[1266]? = some (.methodLink "GraphNamesLaw" (104) (⟨"GraphNames", "place", "(II)I"⟩ : MethodName) : Cond) := by decide +kernel
theorem w_1267 : lw_tbl[1267]? = some (.instanceMethod (⟨"GraphNames", "place", "(II)I"⟩ : MethodName) : Cond) := by decide +kernel
theorem w_1268 : lw_tbl[1268]? = some (.selects "GraphNames" (⟨"GraphNames", "place", "(II)I"⟩ : MethodName) (⟨"GraphNames", "place", "(II)I"⟩ : MethodName) : Cond) := by decide +kernel
theorem w_1269 : lw_tbl[1269]? = some (.code (⟨"GraphNames", "place", "(II)I"⟩) prog_1_method_16_code 4 (some .int) : Cond) := by decide +kernel
theorem w_1270 : lw_tbl[1270]? = some (.methodLink "GraphNamesLaw" (130) (⟨"java/lang/Math", "max", "(II)I"⟩ : MethodName) : Cond) := by decide +kernel
theorem w_1271 : lw_tbl[1271]? = some (.constant "GraphNamesLaw" 144 (2147483646) : Cond) := by decide +kernel
