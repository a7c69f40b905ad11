/-! methods, links, fields: what the tables say -/
abbrev mX0_init : zM := (yX0_init, cX0_init, 1, none)
theorem md_X0_init : z_MD mX0_init 0 := ⟨(lw_good_at w_255 rfl), (lw_good_at w_117 rfl), by decide, by decide, by decide +kernel, by decide⟩
abbrev mX0_begin : zM := (yX0_begin, cX0_begin, 2, none)
theorem md_X0_begin : z_MD mX0_begin 1 := ⟨(lw_good_at w_750 rfl), (lw_good_at w_117 rfl), by decide, by decide, by decide +kernel, by decide⟩
abbrev mX0_byColours : zM := (yX0_byColours, cX0_byColours, 5, none)
theorem md_X0_byColours : z_MD mX0_byColours 1 := ⟨(lw_good_at w_694 rfl), (lw_good_at w_117 rfl), by decide, by decide, by decide +kernel, by decide⟩
abbrev mX0_refine : zM := (yX0_refine, cX0_refine, 2, none)
theorem md_X0_refine : z_MD mX0_refine 1 := ⟨(lw_good_at w_723 rfl), (lw_good_at w_117 rfl), by decide, by decide, by decide +kernel, by decide⟩
abbrev mX0_divide : zM := (yX0_divide, cX0_divide, 3, (some .boolean))
theorem md_X0_divide : z_MD mX0_divide 1 := ⟨(lw_good_at w_727 rfl), (lw_good_at w_117 rfl), by decide, by decide, by decide +kernel, by decide⟩
abbrev mX0_signOf : zM := (yX0_signOf, cX0_signOf, 7, (some .long))
theorem md_X0_signOf : z_MD mX0_signOf 2 := ⟨(lw_good_at w_731 rfl), (lw_good_at w_117 rfl), by decide, by decide, by decide +kernel, by decide⟩
abbrev mX0_split : zM := (yX0_split, cX0_split, 7, none)
theorem md_X0_split : z_MD mX0_split 1 := ⟨(lw_good_at w_736 rfl), (lw_good_at w_117 rfl), by decide, by decide, by decide +kernel, by decide⟩
abbrev mX0_putAhead : zM := (yX0_putAhead, cX0_putAhead, 4, none)
theorem md_X0_putAhead : z_MD mX0_putAhead 1 := ⟨(lw_good_at w_761 rfl), (lw_good_at w_117 rfl), by decide, by decide, by decide +kernel, by decide⟩
abbrev mX0_target : zM := (yX0_target, cX0_target, 4, (some .int))
theorem md_X0_target : z_MD mX0_target 0 := ⟨(lw_good_at w_742 rfl), (lw_good_at w_117 rfl), by decide, by decide, by decide +kernel, by decide⟩
abbrev mX0_mark : zM := (yX0_mark, cX0_mark, 3, (some .int))
theorem md_X0_mark : z_MD mX0_mark 0 := ⟨(lw_good_at w_766 rfl), (lw_good_at w_117 rfl), by decide, by decide, by decide +kernel, by decide⟩
abbrev mX0_take : zM := (yX0_take, cX0_take, 2, none)
theorem md_X0_take : z_MD mX0_take 1 := ⟨(lw_good_at w_868 rfl), (lw_good_at w_117 rfl), by decide, by decide, by decide +kernel, by decide⟩
abbrev mX0_alike : zM := (yX0_alike, cX0_alike, 3, (some .boolean))
theorem md_X0_alike : z_MD mX0_alike 1 := ⟨(lw_good_at w_987 rfl), (lw_good_at w_117 rfl), by decide, by decide, by decide +kernel, by decide⟩
abbrev mX1_init : zM := (yX1_init, cX1_init, 1, none)
theorem md_X1_init : z_MD mX1_init 0 := ⟨(lw_good_at w_159 rfl), (lw_good_at w_115 rfl), by decide, by decide, by decide +kernel, by decide⟩
abbrev mX1_has : zM := (yX1_has, cX1_has, 2, (some .boolean))
theorem md_X1_has : z_MD mX1_has 1 := ⟨(lw_good_at w_629 rfl), (lw_good_at w_115 rfl), by decide, by decide, by decide +kernel, by decide⟩
abbrev mX1_hasAll : zM := (yX1_hasAll, cX1_hasAll, 2, (some .boolean))
theorem md_X1_hasAll : z_MD mX1_hasAll 1 := ⟨(lw_good_at w_955 rfl), (lw_good_at w_115 rfl), by decide, by decide, by decide +kernel, by decide⟩
abbrev mX1_links : zM := (yX1_links, cX1_links, 3, (some .int))
theorem md_X1_links : z_MD mX1_links 0 := ⟨(lw_good_at w_684 rfl), (lw_good_at w_115 rfl), by decide, by decide, by decide +kernel, by decide⟩
abbrev mX1_mostLinks : zM := (yX1_mostLinks, cX1_mostLinks, 3, (some .int))
theorem md_X1_mostLinks : z_MD mX1_mostLinks 0 := ⟨(lw_good_at w_698 rfl), (lw_good_at w_115 rfl), by decide, by decide, by decide +kernel, by decide⟩
abbrev mX1_join : zM := (yX1_join, cX1_join, 5, none)
theorem md_X1_join : z_MD mX1_join 3 := ⟨(lw_good_at w_608 rfl), (lw_good_at w_115 rfl), by decide, by decide, by decide +kernel, by decide⟩
abbrev mX1_exchange : zM := (yX1_exchange, cX1_exchange, 6, none)
theorem md_X1_exchange : z_MD mX1_exchange 2 := ⟨(lw_good_at w_1004 rfl), (lw_good_at w_115 rfl), by decide, by decide, by decide +kernel, by decide⟩
abbrev mX1_mix : zM := (yX1_mix, cX1_mix, 7, (some .int))
theorem md_X1_mix : z_MD mX1_mix 1 := ⟨(lw_good_at w_1061 rfl), (lw_good_at w_115 rfl), by decide, by decide, by decide +kernel, by decide⟩
abbrev mX1_turnKinds : zM := (yX1_turnKinds, cX1_turnKinds, 3, none)
theorem md_X1_turnKinds : z_MD mX1_turnKinds 0 := ⟨(lw_good_at w_1021 rfl), (lw_good_at w_115 rfl), by decide, by decide, by decide +kernel, by decide⟩
abbrev mX1_lose : zM := (yX1_lose, cX1_lose, 4, none)
theorem md_X1_lose : z_MD mX1_lose 1 := ⟨(lw_good_at w_1000 rfl), (lw_good_at w_115 rfl), by decide, by decide, by decide +kernel, by decide⟩
abbrev mX1_gain : zM := (yX1_gain, cX1_gain, 5, none)
theorem md_X1_gain : z_MD mX1_gain 2 := ⟨(lw_good_at w_1083 rfl), (lw_good_at w_115 rfl), by decide, by decide, by decide +kernel, by decide⟩
abbrev mX1_empty : zM := (yX1_empty, cX1_empty, 4, none)
theorem md_X1_empty : z_MD mX1_empty 1 := ⟨(lw_good_at w_604 rfl), (lw_good_at w_115 rfl), by decide, by decide, by decide +kernel, by decide⟩
abbrev mX1_take : zM := (yX1_take, cX1_take, 3, none)
theorem md_X1_take : z_MD mX1_take 1 := ⟨(lw_good_at w_656 rfl), (lw_good_at w_115 rfl), by decide, by decide, by decide +kernel, by decide⟩
abbrev mX1_same : zM := (yX1_same, cX1_same, 4, (some .boolean))
theorem md_X1_same : z_MD mX1_same 1 := ⟨(lw_good_at w_780 rfl), (lw_good_at w_115 rfl), by decide, by decide, by decide +kernel, by decide⟩
abbrev mX2_init : zM := (yX2_init, cX2_init, 1, none)
theorem md_X2_init : z_MD mX2_init 0 := ⟨(lw_good_at w_338 rfl), (lw_good_at w_121 rfl), by decide, by decide, by decide +kernel, by decide⟩
abbrev mX2_write : zM := (yX2_write, cX2_write, 6, none)
theorem md_X2_write : z_MD mX2_write 3 := ⟨(lw_good_at w_801 rfl), (lw_good_at w_121 rfl), by decide, by decide, by decide +kernel, by decide⟩
abbrev mX2_compare : zM := (yX2_compare, cX2_compare, 4, (some .int))
theorem md_X2_compare : z_MD mX2_compare 1 := ⟨(lw_good_at w_820 rfl), (lw_good_at w_121 rfl), by decide, by decide, by decide +kernel, by decide⟩
abbrev mX2_compareCodes : zM := (yX2_compareCodes, cX2_compareCodes, 3, (some .int))
theorem md_X2_compareCodes : z_MD mX2_compareCodes 1 := ⟨(lw_good_at w_828 rfl), (lw_good_at w_121 rfl), by decide, by decide, by decide +kernel, by decide⟩
abbrev mX2_take : zM := (yX2_take, cX2_take, 2, none)
theorem md_X2_take : z_MD mX2_take 1 := ⟨(lw_good_at w_815 rfl), (lw_good_at w_121 rfl), by decide, by decide, by decide +kernel, by decide⟩
abbrev mX3_init : zM := (yX3_init, cX3_init, 1, none)
theorem md_X3_init : z_MD mX3_init 0 := ⟨(lw_good_at w_289 rfl), (lw_good_at w_118 rfl), by decide, by decide, by decide +kernel, by decide⟩
abbrev mX3_match : zM := (yX3_match, cX3_match, 5, none)
theorem md_X3_match : z_MD mX3_match 3 := ⟨(lw_good_at w_916 rfl), (lw_good_at w_118 rfl), by decide, by decide, by decide +kernel, by decide⟩
abbrev mX3_send : zM := (yX3_send, cX3_send, 4, none)
theorem md_X3_send : z_MD mX3_send 2 := ⟨(lw_good_at w_921 rfl), (lw_good_at w_118 rfl), by decide, by decide, by decide +kernel, by decide⟩
abbrev mX3_fits : zM := (yX3_fits, cX3_fits, 3, (some .boolean))
theorem md_X3_fits : z_MD mX3_fits 2 := ⟨(lw_good_at w_931 rfl), (lw_good_at w_118 rfl), by decide, by decide, by decide +kernel, by decide⟩
abbrev mX3_unlike : zM := (yX3_unlike, cX3_unlike, 5, (some .int))
theorem md_X3_unlike : z_MD mX3_unlike 2 := ⟨(lw_good_at w_935 rfl), (lw_good_at w_118 rfl), by decide, by decide, by decide +kernel, by decide⟩
abbrev mX3_note : zM := (yX3_note, cX3_note, 2, none)
theorem md_X3_note : z_MD mX3_note 0 := ⟨(lw_good_at w_925 rfl), (lw_good_at w_118 rfl), by decide, by decide, by decide +kernel, by decide⟩
abbrev mX3_orbits : zM := (yX3_orbits, cX3_orbits, 3, (some .int))
theorem md_X3_orbits : z_MD mX3_orbits 0 := ⟨(lw_good_at w_939 rfl), (lw_good_at w_118 rfl), by decide, by decide, by decide +kernel, by decide⟩
abbrev mX3_unmoved : zM := (yX3_unmoved, cX3_unmoved, 3, (some .int))
theorem md_X3_unmoved : z_MD mX3_unmoved 0 := ⟨(lw_good_at w_943 rfl), (lw_good_at w_118 rfl), by decide, by decide, by decide +kernel, by decide⟩
abbrev mX3_leastChanges : zM := (yX3_leastChanges, cX3_leastChanges, 3, (some .int))
theorem md_X3_leastChanges : z_MD mX3_leastChanges 2 := ⟨(lw_good_at w_971 rfl), (lw_good_at w_118 rfl), by decide, by decide, by decide +kernel, by decide⟩
abbrev mX3_weigh : zM := (yX3_weigh, cX3_weigh, 5, none)
theorem md_X3_weigh : z_MD mX3_weigh 3 := ⟨(lw_good_at w_975 rfl), (lw_good_at w_118 rfl), by decide, by decide, by decide +kernel, by decide⟩
abbrev mX4_init : zM := (yX4_init, cX4_init, 2, none)
theorem md_X4_init : z_MD mX4_init 0 := ⟨(lw_good_at w_233 rfl), (lw_good_at w_116 rfl), by decide, by decide, by decide +kernel, by decide⟩
abbrev mX4_keep : zM := (yX4_keep, cX4_keep, 3, none)
theorem md_X4_keep : z_MD mX4_keep 2 := ⟨(lw_good_at w_652 rfl), (lw_good_at w_116 rfl), by decide, by decide, by decide +kernel, by decide⟩
abbrev mX4_bringBack : zM := (yX4_bringBack, cX4_bringBack, 2, none)
theorem md_X4_bringBack : z_MD mX4_bringBack 1 := ⟨(lw_good_at w_1092 rfl), (lw_good_at w_116 rfl), by decide, by decide, by decide +kernel, by decide⟩
abbrev mX5_init : zM := (yX5_init, cX5_init, 1, none)
theorem md_X5_init : z_MD mX5_init 0 := ⟨(lw_good_at w_153 rfl), (lw_good_at w_114 rfl), by decide, by decide, by decide +kernel, by decide⟩
abbrev mX5_put : zM := (yX5_put, cX5_put, 3, none)
theorem md_X5_put : z_MD mX5_put 1 := ⟨(lw_good_at w_512 rfl), (lw_good_at w_114 rfl), by decide, by decide, by decide +kernel, by decide⟩
abbrev mX5_read : zM := (yX5_read, cX5_read, 2, none)
theorem md_X5_read : z_MD mX5_read 1 := ⟨(lw_good_at w_528 rfl), (lw_good_at w_114 rfl), by decide, by decide, by decide +kernel, by decide⟩
abbrev mX5_readSize : zM := (yX5_readSize, cX5_readSize, 1, (some .boolean))
theorem md_X5_readSize : z_MD mX5_readSize 0 := ⟨(lw_good_at w_539 rfl), (lw_good_at w_114 rfl), by decide, by decide, by decide +kernel, by decide⟩
abbrev mX5_readLines : zM := (yX5_readLines, cX5_readLines, 2, none)
theorem md_X5_readLines : z_MD mX5_readLines 0 := ⟨(lw_good_at w_612 rfl), (lw_good_at w_114 rfl), by decide, by decide, by decide +kernel, by decide⟩
abbrev mX5_readLine : zM := (yX5_readLine, cX5_readLine, 1, (some .boolean))
theorem md_X5_readLine : z_MD mX5_readLine 0 := ⟨(lw_good_at w_616 rfl), (lw_good_at w_114 rfl), by decide, by decide, by decide +kernel, by decide⟩
abbrev mX5_readPaint : zM := (yX5_readPaint, cX5_readPaint, 2, (some .boolean))
theorem md_X5_readPaint : z_MD mX5_readPaint 0 := ⟨(lw_good_at w_621 rfl), (lw_good_at w_114 rfl), by decide, by decide, by decide +kernel, by decide⟩
abbrev mX5_readLink : zM := (yX5_readLink, cX5_readLink, 3, (some .boolean))
theorem md_X5_readLink : z_MD mX5_readLink 0 := ⟨(lw_good_at w_637 rfl), (lw_good_at w_114 rfl), by decide, by decide, by decide +kernel, by decide⟩
abbrev mX5_readChain : zM := (yX5_readChain, cX5_readChain, 7, (some .boolean))
theorem md_X5_readChain : z_MD mX5_readChain 2 := ⟨(lw_good_at w_647 rfl), (lw_good_at w_114 rfl), by decide, by decide, by decide +kernel, by decide⟩
abbrev mX5_joins : zM := (yX5_joins, cX5_joins, 3, (some .boolean))
theorem md_X5_joins : z_MD mX5_joins 2 := ⟨(lw_good_at w_641 rfl), (lw_good_at w_114 rfl), by decide, by decide, by decide +kernel, by decide⟩
abbrev mX5_fails : zM := (yX5_fails, cX5_fails, 2, (some .boolean))
theorem md_X5_fails : z_MD mX5_fails 1 := ⟨(lw_good_at w_596 rfl), (lw_good_at w_114 rfl), by decide, by decide, by decide +kernel, by decide⟩
abbrev mX5_isVertex : zM := (yX5_isVertex, cX5_isVertex, 1, (some .boolean))
theorem md_X5_isVertex : z_MD mX5_isVertex 0 := ⟨(lw_good_at w_625 rfl), (lw_good_at w_114 rfl), by decide, by decide, by decide +kernel, by decide⟩
abbrev mX5_digit : zM := (yX5_digit, cX5_digit, 1, (some .int))
theorem md_X5_digit : z_MD mX5_digit 0 := ⟨(lw_good_at w_600 rfl), (lw_good_at w_114 rfl), by decide, by decide, by decide +kernel, by decide⟩
abbrev mX5_isWord : zM := (yX5_isWord, cX5_isWord, 3, (some .boolean))
theorem md_X5_isWord : z_MD mX5_isWord 1 := ⟨(lw_good_at w_544 rfl), (lw_good_at w_114 rfl), by decide, by decide, by decide +kernel, by decide⟩
abbrev mX5_step : zM := (yX5_step, cX5_step, 2, none)
theorem md_X5_step : z_MD mX5_step 0 := ⟨(lw_good_at w_532 rfl), (lw_good_at w_114 rfl), by decide, by decide, by decide +kernel, by decide⟩
abbrev mX5_isLetter : zM := (yX5_isLetter, cX5_isLetter, 1, (some .boolean))
theorem md_X5_isLetter : z_MD mX5_isLetter 1 := ⟨(lw_good_at w_535 rfl), (lw_good_at w_114 rfl), by decide, by decide, by decide +kernel, by decide⟩
abbrev mX6_init : zM := (yX6_init, cX6_init, 1, none)
theorem md_X6_init : z_MD mX6_init 0 := ⟨(lw_good_at w_325 rfl), (lw_good_at w_120 rfl), by decide, by decide, by decide +kernel, by decide⟩
abbrev mX6_forget : zM := (yX6_forget, cX6_forget, 1, none)
theorem md_X6_forget : z_MD mX6_forget 0 := ⟨(lw_good_at w_787 rfl), (lw_good_at w_120 rfl), by decide, by decide, by decide +kernel, by decide⟩
abbrev mX6_skips : zM := (yX6_skips, cX6_skips, 4, (some .boolean))
theorem md_X6_skips : z_MD mX6_skips 3 := ⟨(lw_good_at w_845 rfl), (lw_good_at w_120 rfl), by decide, by decide, by decide +kernel, by decide⟩
abbrev mX6_spread : zM := (yX6_spread, cX6_spread, 7, (some .int))
theorem md_X6_spread : z_MD mX6_spread 2 := ⟨(lw_good_at w_849 rfl), (lw_good_at w_120 rfl), by decide, by decide, by decide +kernel, by decide⟩
abbrev mX6_leavesAlone : zM := (yX6_leavesAlone, cX6_leavesAlone, 4, (some .boolean))
theorem md_X6_leavesAlone : z_MD mX6_leavesAlone 2 := ⟨(lw_good_at w_853 rfl), (lw_good_at w_120 rfl), by decide, by decide, by decide +kernel, by decide⟩
abbrev mX6_imageOf : zM := (yX6_imageOf, cX6_imageOf, 5, (some .int))
theorem md_X6_imageOf : z_MD mX6_imageOf 2 := ⟨(lw_good_at w_861 rfl), (lw_good_at w_120 rfl), by decide, by decide, by decide +kernel, by decide⟩
abbrev mX6_cuts : zM := (yX6_cuts, cX6_cuts, 3, (some .boolean))
theorem md_X6_cuts : z_MD mX6_cuts 1 := ⟨(lw_good_at w_876 rfl), (lw_good_at w_120 rfl), by decide, by decide, by decide +kernel, by decide⟩
abbrev mX6_reach : zM := (yX6_reach, cX6_reach, 2, none)
theorem md_X6_reach : z_MD mX6_reach 0 := ⟨(lw_good_at w_811 rfl), (lw_good_at w_120 rfl), by decide, by decide, by decide +kernel, by decide⟩
abbrev mX6_note : zM := (yX6_note, cX6_note, 4, none)
theorem md_X6_note : z_MD mX6_note 1 := ⟨(lw_good_at w_832 rfl), (lw_good_at w_120 rfl), by decide, by decide, by decide +kernel, by decide⟩
abbrev mX7_init : zM := (yX7_init, cX7_init, 1, none)
theorem md_X7_init : z_MD mX7_init 0 := ⟨(lw_good_at w_441 rfl), (lw_good_at w_122 rfl), by decide, by decide, by decide +kernel, by decide⟩
abbrev mX7_forget : zM := (yX7_forget, cX7_forget, 1, none)
theorem md_X7_forget : z_MD mX7_forget 0 := ⟨(lw_good_at w_790 rfl), (lw_good_at w_122 rfl), by decide, by decide, by decide +kernel, by decide⟩
abbrev mX7_skips : zM := (yX7_skips, cX7_skips, 4, (some .boolean))
theorem md_X7_skips : z_MD mX7_skips 3 := ⟨(lw_good_at w_864 rfl), (lw_good_at w_122 rfl), by decide, by decide, by decide +kernel, by decide⟩
abbrev mX7_cuts : zM := (yX7_cuts, cX7_cuts, 2, (some .boolean))
theorem md_X7_cuts : z_MD mX7_cuts 1 := ⟨(lw_good_at w_879 rfl), (lw_good_at w_122 rfl), by decide, by decide, by decide +kernel, by decide⟩
abbrev mX7_reach : zM := (yX7_reach, cX7_reach, 2, none)
theorem md_X7_reach : z_MD mX7_reach 0 := ⟨(lw_good_at w_835 rfl), (lw_good_at w_122 rfl), by decide, by decide, by decide +kernel, by decide⟩
abbrev mX8_init : zM := (yX8_init, cX8_init, 2, none)
theorem md_X8_init : z_MD mX8_init 0 := ⟨(lw_good_at w_328 rfl), (lw_good_at w_119 rfl), by decide, by decide, by decide +kernel, by decide⟩
abbrev mX8_look : zM := (yX8_look, cX8_look, 2, none)
theorem md_X8_look : z_MD mX8_look 1 := ⟨(lw_good_at w_776 rfl), (lw_good_at w_119 rfl), by decide, by decide, by decide +kernel, by decide⟩
abbrev mX8_come : zM := (yX8_come, cX8_come, 7, none)
theorem md_X8_come : z_MD mX8_come 2 := ⟨(lw_good_at w_796 rfl), (lw_good_at w_119 rfl), by decide, by decide, by decide +kernel, by decide⟩
abbrev mX9_init : zM := (yX9_init, cX9_init, 2, none)
theorem md_X9_init : z_MD mX9_init 0 := ⟨(lw_good_at w_139 rfl), (lw_good_at w_113 rfl), by decide, by decide, by decide +kernel, by decide⟩
abbrev mX9_feed : zM := (yX9_feed, cX9_feed, 6, (some .int))
theorem md_X9_feed : z_MD mX9_feed 5 := ⟨(lw_good_at w_508 rfl), (lw_good_at w_113 rfl), by decide, by decide, by decide +kernel, by decide⟩
abbrev mX9_text : zM := (yX9_text, cX9_text, 4, (some .int))
theorem md_X9_text : z_MD mX9_text 2 := ⟨(lw_good_at w_516 rfl), (lw_good_at w_113 rfl), by decide, by decide, by decide +kernel, by decide⟩
abbrev mX9_fault : zM := (yX9_fault, cX9_fault, 1, (some .int))
theorem md_X9_fault : z_MD mX9_fault 0 := ⟨(lw_good_at w_672 rfl), (lw_good_at w_113 rfl), by decide, by decide, by decide +kernel, by decide⟩
abbrev mX9_where : zM := (yX9_where, cX9_where, 1, (some .int))
theorem md_X9_where : z_MD mX9_where 0 := ⟨(lw_good_at w_676 rfl), (lw_good_at w_113 rfl), by decide, by decide, by decide +kernel, by decide⟩
abbrev mX9_graph : zM := (yX9_graph, cX9_graph, 4, (some .int))
theorem md_X9_graph : z_MD mX9_graph 2 := ⟨(lw_good_at w_680 rfl), (lw_good_at w_113 rfl), by decide, by decide, by decide +kernel, by decide⟩
abbrev mX9_colour : zM := (yX9_colour, cX9_colour, 4, (some .int))
theorem md_X9_colour : z_MD mX9_colour 2 := ⟨(lw_good_at w_705 rfl), (lw_good_at w_113 rfl), by decide, by decide, by decide +kernel, by decide⟩
abbrev mX9_kind : zM := (yX9_kind, cX9_kind, 5, (some .int))
theorem md_X9_kind : z_MD mX9_kind 3 := ⟨(lw_good_at w_710 rfl), (lw_good_at w_113 rfl), by decide, by decide, by decide +kernel, by decide⟩
abbrev mX9_degree : zM := (yX9_degree, cX9_degree, 5, (some .int))
theorem md_X9_degree : z_MD mX9_degree 3 := ⟨(lw_good_at w_714 rfl), (lw_good_at w_113 rfl), by decide, by decide, by decide +kernel, by decide⟩
abbrev mX9_start : zM := (yX9_start, cX9_start, 5, (some .int))
theorem md_X9_start : z_MD mX9_start 2 := ⟨(lw_good_at w_719 rfl), (lw_good_at w_113 rfl), by decide, by decide, by decide +kernel, by decide⟩
abbrev mX9_cell : zM := (yX9_cell, cX9_cell, 4, (some .int))
theorem md_X9_cell : z_MD mX9_cell 2 := ⟨(lw_good_at w_746 rfl), (lw_good_at w_113 rfl), by decide, by decide, by decide +kernel, by decide⟩
abbrev mX9_apart : zM := (yX9_apart, cX9_apart, 5, (some .int))
theorem md_X9_apart : z_MD mX9_apart 3 := ⟨(lw_good_at w_756 rfl), (lw_good_at w_113 rfl), by decide, by decide, by decide +kernel, by decide⟩
abbrev mX9_tree : zM := (yX9_tree, cX9_tree, 5, (some .int))
theorem md_X9_tree : z_MD mX9_tree 2 := ⟨(lw_good_at w_770 rfl), (lw_good_at w_113 rfl), by decide, by decide, by decide +kernel, by decide⟩
abbrev mX9_search : zM := (yX9_search, cX9_search, 5, (some .int))
theorem md_X9_search : z_MD mX9_search 2 := ⟨(lw_good_at w_883 rfl), (lw_good_at w_113 rfl), by decide, by decide, by decide +kernel, by decide⟩
abbrev mX9_name : zM := (yX9_name, cX9_name, 4, (some .int))
theorem md_X9_name : z_MD mX9_name 2 := ⟨(lw_good_at w_894 rfl), (lw_good_at w_113 rfl), by decide, by decide, by decide +kernel, by decide⟩
abbrev mX9_place : zM := (yX9_place, cX9_place, 4, (some .int))
theorem md_X9_place : z_MD mX9_place 2 := ⟨(lw_good_at w_898 rfl), (lw_good_at w_113 rfl), by decide, by decide, by decide +kernel, by decide⟩
abbrev mX9_less : zM := (yX9_less, cX9_less, 6, (some .int))
theorem md_X9_less : z_MD mX9_less 2 := ⟨(lw_good_at w_902 rfl), (lw_good_at w_113 rfl), by decide, by decide, by decide +kernel, by decide⟩
abbrev mX9_generator : zM := (yX9_generator, cX9_generator, 6, (some .int))
theorem md_X9_generator : z_MD mX9_generator 3 := ⟨(lw_good_at w_907 rfl), (lw_good_at w_113 rfl), by decide, by decide, by decide +kernel, by decide⟩
abbrev mX9_symmetries : zM := (yX9_symmetries, cX9_symmetries, 4, (some .int))
theorem md_X9_symmetries : z_MD mX9_symmetries 2 := ⟨(lw_good_at w_912 rfl), (lw_good_at w_113 rfl), by decide, by decide, by decide +kernel, by decide⟩
abbrev mX9_orbit : zM := (yX9_orbit, cX9_orbit, 4, (some .int))
theorem md_X9_orbit : z_MD mX9_orbit 2 := ⟨(lw_good_at w_947 rfl), (lw_good_at w_113 rfl), by decide, by decide, by decide +kernel, by decide⟩
abbrev mX9_leave : zM := (yX9_leave, cX9_leave, 4, (some .int))
theorem md_X9_leave : z_MD mX9_leave 2 := ⟨(lw_good_at w_951 rfl), (lw_good_at w_113 rfl), by decide, by decide, by decide +kernel, by decide⟩
abbrev mX9_maps : zM := (yX9_maps, cX9_maps, 5, (some .int))
theorem md_X9_maps : z_MD mX9_maps 2 := ⟨(lw_good_at w_959 rfl), (lw_good_at w_113 rfl), by decide, by decide, by decide +kernel, by decide⟩
abbrev mX9_map : zM := (yX9_map, cX9_map, 6, (some .int))
theorem md_X9_map : z_MD mX9_map 3 := ⟨(lw_good_at w_963 rfl), (lw_good_at w_113 rfl), by decide, by decide, by decide +kernel, by decide⟩
abbrev mX9_changes : zM := (yX9_changes, cX9_changes, 5, (some .int))
theorem md_X9_changes : z_MD mX9_changes 2 := ⟨(lw_good_at w_967 rfl), (lw_good_at w_113 rfl), by decide, by decide, by decide +kernel, by decide⟩
abbrev mX9_told : zM := (yX9_told, cX9_told, 5, (some .int))
theorem md_X9_told : z_MD mX9_told 2 := ⟨(lw_good_at w_979 rfl), (lw_good_at w_113 rfl), by decide, by decide, by decide +kernel, by decide⟩
abbrev mX9_cards : zM := (yX9_cards, cX9_cards, 4, (some .int))
theorem md_X9_cards : z_MD mX9_cards 2 := ⟨(lw_good_at w_992 rfl), (lw_good_at w_113 rfl), by decide, by decide, by decide +kernel, by decide⟩
abbrev mX9_turned : zM := (yX9_turned, cX9_turned, 3, (some .int))
theorem md_X9_turned : z_MD mX9_turned 1 := ⟨(lw_good_at w_1017 rfl), (lw_good_at w_113 rfl), by decide, by decide, by decide +kernel, by decide⟩
abbrev mX9_base : zM := (yX9_base, cX9_base, 4, (some .int))
theorem md_X9_base : z_MD mX9_base 2 := ⟨(lw_good_at w_1025 rfl), (lw_good_at w_113 rfl), by decide, by decide, by decide +kernel, by decide⟩
abbrev mX9_fewest : zM := (yX9_fewest, cX9_fewest, 3, (some .int))
theorem md_X9_fewest : z_MD mX9_fewest 1 := ⟨(lw_good_at w_1034 rfl), (lw_good_at w_113 rfl), by decide, by decide, by decide +kernel, by decide⟩
abbrev mX9_link : zM := (yX9_link, cX9_link, 7, (some .int))
theorem md_X9_link : z_MD mX9_link 4 := ⟨(lw_good_at w_1042 rfl), (lw_good_at w_113 rfl), by decide, by decide, by decide +kernel, by decide⟩
abbrev mX9_paint : zM := (yX9_paint, cX9_paint, 6, (some .int))
theorem md_X9_paint : z_MD mX9_paint 3 := ⟨(lw_good_at w_1047 rfl), (lw_good_at w_113 rfl), by decide, by decide, by decide +kernel, by decide⟩
abbrev mX9_swap : zM := (yX9_swap, cX9_swap, 5, (some .int))
theorem md_X9_swap : z_MD mX9_swap 3 := ⟨(lw_good_at w_1051 rfl), (lw_good_at w_113 rfl), by decide, by decide, by decide +kernel, by decide⟩
abbrev mX9_shuffle : zM := (yX9_shuffle, cX9_shuffle, 4, (some .int))
theorem md_X9_shuffle : z_MD mX9_shuffle 2 := ⟨(lw_good_at w_1056 rfl), (lw_good_at w_113 rfl), by decide, by decide, by decide +kernel, by decide⟩
abbrev mX9_copy : zM := (yX9_copy, cX9_copy, 5, (some .int))
theorem md_X9_copy : z_MD mX9_copy 2 := ⟨(lw_good_at w_1067 rfl), (lw_good_at w_113 rfl), by decide, by decide, by decide +kernel, by decide⟩
abbrev mX9_turn : zM := (yX9_turn, cX9_turn, 3, (some .int))
theorem md_X9_turn : z_MD mX9_turn 1 := ⟨(lw_good_at w_1071 rfl), (lw_good_at w_113 rfl), by decide, by decide, by decide +kernel, by decide⟩
abbrev mX9_drop : zM := (yX9_drop, cX9_drop, 4, (some .int))
theorem md_X9_drop : z_MD mX9_drop 2 := ⟨(lw_good_at w_1075 rfl), (lw_good_at w_113 rfl), by decide, by decide, by decide +kernel, by decide⟩
abbrev mX9_grow : zM := (yX9_grow, cX9_grow, 5, (some .int))
theorem md_X9_grow : z_MD mX9_grow 3 := ⟨(lw_good_at w_1079 rfl), (lw_good_at w_113 rfl), by decide, by decide, by decide +kernel, by decide⟩
abbrev mX9_undo : zM := (yX9_undo, cX9_undo, 1, (some .int))
theorem md_X9_undo : z_MD mX9_undo 0 := ⟨(lw_good_at w_1088 rfl), (lw_good_at w_113 rfl), by decide, by decide, by decide +kernel, by decide⟩
abbrev mX9_image : zM := (yX9_image, cX9_image, 3, (some .boolean))
theorem md_X9_image : z_MD mX9_image 1 := ⟨(lw_good_at w_1096 rfl), (lw_good_at w_113 rfl), by decide, by decide, by decide +kernel, by decide⟩
abbrev mX9_again : zM := (yX9_again, cX9_again, 3, (some .boolean))
theorem md_X9_again : z_MD mX9_again 1 := ⟨(lw_good_at w_1100 rfl), (lw_good_at w_113 rfl), by decide, by decide, by decide +kernel, by decide⟩
abbrev mX9_row : zM := (yX9_row, cX9_row, 4, (some .int))
theorem md_X9_row : z_MD mX9_row 2 := ⟨(lw_good_at w_1116 rfl), (lw_good_at w_113 rfl), by decide, by decide, by decide +kernel, by decide⟩
abbrev mX9_size : zM := (yX9_size, cX9_size, 1, (some .int))
theorem md_X9_size : z_MD mX9_size 0 := ⟨(lw_good_at w_1104 rfl), (lw_good_at w_113 rfl), by decide, by decide, by decide +kernel, by decide⟩
abbrev mX9_trouble : zM := (yX9_trouble, cX9_trouble, 1, (some .int))
theorem md_X9_trouble : z_MD mX9_trouble 0 := ⟨(lw_good_at w_1108 rfl), (lw_good_at w_113 rfl), by decide, by decide, by decide +kernel, by decide⟩
abbrev mX9_refused : zM := (yX9_refused, cX9_refused, 2, (some .int))
theorem md_X9_refused : z_MD mX9_refused 1 := ⟨(lw_good_at w_524 rfl), (lw_good_at w_113 rfl), by decide, by decide, by decide +kernel, by decide⟩
abbrev mX9_answered : zM := (yX9_answered, cX9_answered, 2, (some .int))
theorem md_X9_answered : z_MD mX9_answered 1 := ⟨(lw_good_at w_667 rfl), (lw_good_at w_113 rfl), by decide, by decide, by decide +kernel, by decide⟩
abbrev mX9_at : zM := (yX9_at, cX9_at, 2, (some (.object "GraphNames$Graph")))
theorem md_X9_at : z_MD mX9_at 1 := ⟨(lw_good_at w_520 rfl), (lw_good_at w_113 rfl), by decide, by decide, by decide +kernel, by decide⟩
abbrev mX9_searchOf : zM := (yX9_searchOf, cX9_searchOf, 3, (some (.object "GraphNames$Search")))
theorem md_X9_searchOf : z_MD mX9_searchOf 1 := ⟨(lw_good_at w_887 rfl), (lw_good_at w_113 rfl), by decide, by decide, by decide +kernel, by decide⟩
abbrev mX9_toldApart : zM := (yX9_toldApart, cX9_toldApart, 5, (some .int))
theorem md_X9_toldApart : z_MD mX9_toldApart 2 := ⟨(lw_good_at w_983 rfl), (lw_good_at w_113 rfl), by decide, by decide, by decide +kernel, by decide⟩
abbrev mX9_nameCards : zM := (yX9_nameCards, cX9_nameCards, 3, none)
theorem md_X9_nameCards : z_MD mX9_nameCards 1 := ⟨(lw_good_at w_996 rfl), (lw_good_at w_113 rfl), by decide, by decide, by decide +kernel, by decide⟩
abbrev mX9_unlikeCards : zM := (yX9_unlikeCards, cX9_unlikeCards, 4, (some .int))
theorem md_X9_unlikeCards : z_MD mX9_unlikeCards 1 := ⟨(lw_good_at w_1009 rfl), (lw_good_at w_113 rfl), by decide, by decide, by decide +kernel, by decide⟩
abbrev mX9_cardsLike : zM := (yX9_cardsLike, cX9_cardsLike, 5, (some .int))
theorem md_X9_cardsLike : z_MD mX9_cardsLike 2 := ⟨(lw_good_at w_1013 rfl), (lw_good_at w_113 rfl), by decide, by decide, by decide +kernel, by decide⟩
abbrev mX9_cellsWith : zM := (yX9_cellsWith, cX9_cellsWith, 4, (some .int))
theorem md_X9_cellsWith : z_MD mX9_cellsWith 2 := ⟨(lw_good_at w_1029 rfl), (lw_good_at w_113 rfl), by decide, by decide, by decide +kernel, by decide⟩
abbrev mX9_fewestApart : zM := (yX9_fewestApart, cX9_fewestApart, 5, (some .int))
theorem md_X9_fewestApart : z_MD mX9_fewestApart 1 := ⟨(lw_good_at w_1038 rfl), (lw_good_at w_113 rfl), by decide, by decide, by decide +kernel, by decide⟩
abbrev mX9_in : zM := (yX9_in, cX9_in, 2, (some .boolean))
theorem md_X9_in : z_MD mX9_in 2 := ⟨(lw_good_at w_632 rfl), (lw_good_at w_113 rfl), by decide, by decide, by decide +kernel, by decide⟩
abbrev mX9_sentTo : zM := (yX9_sentTo, cX9_sentTo, 2, (some .int))
theorem md_X9_sentTo : z_MD mX9_sentTo 2 := ⟨(lw_good_at w_857 rfl), (lw_good_at w_113 rfl), by decide, by decide, by decide +kernel, by decide⟩
abbrev mX10_init : zM := (yX10_init, cX10_init, 2, none)
theorem md_X10_init : z_MD mX10_init 0 := ⟨(lw_good_at w_1182 rfl), (lw_good_at w_123 rfl), by decide, by decide, by decide +kernel, by decide⟩
abbrev mX10_thrown : zM := (yX10_thrown, cX10_thrown, 1, (some .int))
theorem md_X10_thrown : z_MD mX10_thrown 0 := ⟨(lw_good_at w_1377 rfl), (lw_good_at w_123 rfl), by decide, by decide, by decide +kernel, by decide⟩
abbrev mX10_in : zM := (yX10_in, cX10_in, 3, (some .boolean))
theorem md_X10_in : z_MD mX10_in 3 := ⟨(lw_good_at w_1411 rfl), (lw_good_at w_123 rfl), by decide, by decide, by decide +kernel, by decide⟩
abbrev mX10_has : zM := (yX10_has, cX10_has, 2, (some .boolean))
theorem md_X10_has : z_MD mX10_has 2 := ⟨(lw_good_at w_1468 rfl), (lw_good_at w_123 rfl), by decide, by decide, by decide +kernel, by decide⟩
abbrev mX10_ones : zM := (yX10_ones, cX10_ones, 3, (some .int))
theorem md_X10_ones : z_MD mX10_ones 1 := ⟨(lw_good_at w_1519 rfl), (lw_good_at w_123 rfl), by decide, by decide, by decide +kernel, by decide⟩
abbrev mX10_begins : zM := (yX10_begins, cX10_begins, 1, none)
theorem md_X10_begins : z_MD mX10_begins 0 := ⟨(lw_good_at w_1405 rfl), (lw_good_at w_123 rfl), by decide, by decide, by decide +kernel, by decide⟩
abbrev mX10_refuse : zM := (yX10_refuse, cX10_refuse, 3, (some .boolean))
theorem md_X10_refuse : z_MD mX10_refuse 2 := ⟨(lw_good_at w_1415 rfl), (lw_good_at w_123 rfl), by decide, by decide, by decide +kernel, by decide⟩
abbrev mX10_feed : zM := (yX10_feed, cX10_feed, 8, (some .int))
theorem md_X10_feed : z_MD mX10_feed 5 := ⟨(lw_good_at w_1381 rfl), (lw_good_at w_123 rfl), by decide, by decide, by decide +kernel, by decide⟩
abbrev mX10_size : zM := (yX10_size, cX10_size, 1, (some .int))
theorem md_X10_size : z_MD mX10_size 0 := ⟨(lw_good_at w_1385 rfl), (lw_good_at w_123 rfl), by decide, by decide, by decide +kernel, by decide⟩
abbrev mX10_trouble : zM := (yX10_trouble, cX10_trouble, 1, (some .int))
theorem md_X10_trouble : z_MD mX10_trouble 0 := ⟨(lw_good_at w_1389 rfl), (lw_good_at w_123 rfl), by decide, by decide, by decide +kernel, by decide⟩
abbrev mX10_fault : zM := (yX10_fault, cX10_fault, 1, (some .int))
theorem md_X10_fault : z_MD mX10_fault 0 := ⟨(lw_good_at w_1393 rfl), (lw_good_at w_123 rfl), by decide, by decide, by decide +kernel, by decide⟩
abbrev mX10_where : zM := (yX10_where, cX10_where, 1, (some .int))
theorem md_X10_where : z_MD mX10_where 0 := ⟨(lw_good_at w_1397 rfl), (lw_good_at w_123 rfl), by decide, by decide, by decide +kernel, by decide⟩
abbrev mX10_seen : zM := (yX10_seen, cX10_seen, 2, (some .int))
theorem md_X10_seen : z_MD mX10_seen 1 := ⟨(lw_good_at w_1427 rfl), (lw_good_at w_123 rfl), by decide, by decide, by decide +kernel, by decide⟩
abbrev mX10_isLetter : zM := (yX10_isLetter, cX10_isLetter, 1, (some .boolean))
theorem md_X10_isLetter : z_MD mX10_isLetter 1 := ⟨(lw_good_at w_1430 rfl), (lw_good_at w_123 rfl), by decide, by decide, by decide +kernel, by decide⟩
abbrev mX10_token : zM := (yX10_token, cX10_token, 3, none)
theorem md_X10_token : z_MD mX10_token 0 := ⟨(lw_good_at w_1423 rfl), (lw_good_at w_123 rfl), by decide, by decide, by decide +kernel, by decide⟩
abbrev mX10_fails : zM := (yX10_fails, cX10_fails, 2, none)
theorem md_X10_fails : z_MD mX10_fails 1 := ⟨(lw_good_at w_1441 rfl), (lw_good_at w_123 rfl), by decide, by decide, by decide +kernel, by decide⟩
abbrev mX10_goesOn : zM := (yX10_goesOn, cX10_goesOn, 1, none)
theorem md_X10_goesOn : z_MD mX10_goesOn 0 := ⟨(lw_good_at w_1445 rfl), (lw_good_at w_123 rfl), by decide, by decide, by decide +kernel, by decide⟩
abbrev mX10_spelled : zM := (yX10_spelled, cX10_spelled, 6, (some .int))
theorem md_X10_spelled : z_MD mX10_spelled 5 := ⟨(lw_good_at w_1433 rfl), (lw_good_at w_123 rfl), by decide, by decide, by decide +kernel, by decide⟩
abbrev mX10_isWord : zM := (yX10_isWord, cX10_isWord, 2, (some .boolean))
theorem md_X10_isWord : z_MD mX10_isWord 1 := ⟨(lw_good_at w_1437 rfl), (lw_good_at w_123 rfl), by decide, by decide, by decide +kernel, by decide⟩
abbrev mX10_isDigit : zM := (yX10_isDigit, cX10_isDigit, 1, (some .boolean))
theorem md_X10_isDigit : z_MD mX10_isDigit 0 := ⟨(lw_good_at w_1488 rfl), (lw_good_at w_123 rfl), by decide, by decide, by decide +kernel, by decide⟩
abbrev mX10_hold : zM := (yX10_hold, cX10_hold, 3, (some .int))
theorem md_X10_hold : z_MD mX10_hold 2 := ⟨(lw_good_at w_1453 rfl), (lw_good_at w_123 rfl), by decide, by decide, by decide +kernel, by decide⟩
abbrev mX10_takes : zM := (yX10_takes, cX10_takes, 4, (some .int))
theorem md_X10_takes : z_MD mX10_takes 2 := ⟨(lw_good_at w_1449 rfl), (lw_good_at w_123 rfl), by decide, by decide, by decide +kernel, by decide⟩
abbrev mX10_readVertex : zM := (yX10_readVertex, cX10_readVertex, 1, (some .int))
theorem md_X10_readVertex : z_MD mX10_readVertex 0 := ⟨(lw_good_at w_1465 rfl), (lw_good_at w_123 rfl), by decide, by decide, by decide +kernel, by decide⟩
abbrev mX10_linksRead : zM := (yX10_linksRead, cX10_linksRead, 4, none)
theorem md_X10_linksRead : z_MD mX10_linksRead 3 := ⟨(lw_good_at w_1484 rfl), (lw_good_at w_123 rfl), by decide, by decide, by decide +kernel, by decide⟩
abbrev mX10_isRead : zM := (yX10_isRead, cX10_isRead, 3, (some .boolean))
theorem md_X10_isRead : z_MD mX10_isRead 2 := ⟨(lw_good_at w_1480 rfl), (lw_good_at w_123 rfl), by decide, by decide, by decide +kernel, by decide⟩
abbrev mX10_readLinked : zM := (yX10_readLinked, cX10_readLinked, 3, (some .int))
theorem md_X10_readLinked : z_MD mX10_readLinked 1 := ⟨(lw_good_at w_1476 rfl), (lw_good_at w_123 rfl), by decide, by decide, by decide +kernel, by decide⟩
abbrev mX10_paintLine : zM := (yX10_paintLine, cX10_paintLine, 3, none)
theorem md_X10_paintLine : z_MD mX10_paintLine 0 := ⟨(lw_good_at w_1461 rfl), (lw_good_at w_123 rfl), by decide, by decide, by decide +kernel, by decide⟩
abbrev mX10_linkLine : zM := (yX10_linkLine, cX10_linkLine, 4, none)
theorem md_X10_linkLine : z_MD mX10_linkLine 0 := ⟨(lw_good_at w_1472 rfl), (lw_good_at w_123 rfl), by decide, by decide, by decide +kernel, by decide⟩
abbrev mX10_pathLine : zM := (yX10_pathLine, cX10_pathLine, 4, none)
theorem md_X10_pathLine : z_MD mX10_pathLine 1 := ⟨(lw_good_at w_1492 rfl), (lw_good_at w_123 rfl), by decide, by decide, by decide +kernel, by decide⟩
abbrev mX10_line : zM := (yX10_line, cX10_line, 1, none)
theorem md_X10_line : z_MD mX10_line 0 := ⟨(lw_good_at w_1457 rfl), (lw_good_at w_123 rfl), by decide, by decide, by decide +kernel, by decide⟩
abbrev mX10_reads : zM := (yX10_reads, cX10_reads, 3, none)
theorem md_X10_reads : z_MD mX10_reads 1 := ⟨(lw_good_at w_1419 rfl), (lw_good_at w_123 rfl), by decide, by decide, by decide +kernel, by decide⟩
abbrev mX10_text : zM := (yX10_text, cX10_text, 4, (some .int))
theorem md_X10_text : z_MD mX10_text 2 := ⟨(lw_good_at w_1401 rfl), (lw_good_at w_123 rfl), by decide, by decide, by decide +kernel, by decide⟩
abbrev mX10_isGraph : zM := (yX10_isGraph, cX10_isGraph, 1, (some .boolean))
theorem md_X10_isGraph : z_MD mX10_isGraph 1 := ⟨(lw_good_at w_1408 rfl), (lw_good_at w_123 rfl), by decide, by decide, by decide +kernel, by decide⟩
abbrev mX10_manyOf : zM := (yX10_manyOf, cX10_manyOf, 2, (some .int))
theorem md_X10_manyOf : z_MD mX10_manyOf 1 := ⟨(lw_good_at w_1504 rfl), (lw_good_at w_123 rfl), by decide, by decide, by decide +kernel, by decide⟩
abbrev mX10_isVertex : zM := (yX10_isVertex, cX10_isVertex, 3, (some .boolean))
theorem md_X10_isVertex : z_MD mX10_isVertex 2 := ⟨(lw_good_at w_1535 rfl), (lw_good_at w_123 rfl), by decide, by decide, by decide +kernel, by decide⟩
abbrev mX10_isSet : zM := (yX10_isSet, cX10_isSet, 3, (some .boolean))
theorem md_X10_isSet : z_MD mX10_isSet 2 := ⟨(lw_good_at w_1618 rfl), (lw_good_at w_123 rfl), by decide, by decide, by decide +kernel, by decide⟩
abbrev mX10_colourOf : zM := (yX10_colourOf, cX10_colourOf, 3, (some .int))
theorem md_X10_colourOf : z_MD mX10_colourOf 2 := ⟨(lw_good_at w_1527 rfl), (lw_good_at w_123 rfl), by decide, by decide, by decide +kernel, by decide⟩
abbrev mX10_kindOf : zM := (yX10_kindOf, cX10_kindOf, 4, (some .int))
theorem md_X10_kindOf : z_MD mX10_kindOf 3 := ⟨(lw_good_at w_1516 rfl), (lw_good_at w_123 rfl), by decide, by decide, by decide +kernel, by decide⟩
abbrev mX10_rowOf : zM := (yX10_rowOf, cX10_rowOf, 5, (some .int))
theorem md_X10_rowOf : z_MD mX10_rowOf 2 := ⟨(lw_good_at w_1512 rfl), (lw_good_at w_123 rfl), by decide, by decide, by decide +kernel, by decide⟩
abbrev mX10_linksOf : zM := (yX10_linksOf, cX10_linksOf, 4, (some .int))
theorem md_X10_linksOf : z_MD mX10_linksOf 1 := ⟨(lw_good_at w_1508 rfl), (lw_good_at w_123 rfl), by decide, by decide, by decide +kernel, by decide⟩
abbrev mX10_coloursOf : zM := (yX10_coloursOf, cX10_coloursOf, 5, (some .int))
theorem md_X10_coloursOf : z_MD mX10_coloursOf 1 := ⟨(lw_good_at w_1523 rfl), (lw_good_at w_123 rfl), by decide, by decide, by decide +kernel, by decide⟩
abbrev mX10_graph : zM := (yX10_graph, cX10_graph, 6, (some .int))
theorem md_X10_graph : z_MD mX10_graph 2 := ⟨(lw_good_at w_1500 rfl), (lw_good_at w_123 rfl), by decide, by decide, by decide +kernel, by decide⟩
abbrev mX10_colour : zM := (yX10_colour, cX10_colour, 3, (some .int))
theorem md_X10_colour : z_MD mX10_colour 2 := ⟨(lw_good_at w_1531 rfl), (lw_good_at w_123 rfl), by decide, by decide, by decide +kernel, by decide⟩
abbrev mX10_kind : zM := (yX10_kind, cX10_kind, 4, (some .int))
theorem md_X10_kind : z_MD mX10_kind 3 := ⟨(lw_good_at w_1539 rfl), (lw_good_at w_123 rfl), by decide, by decide, by decide +kernel, by decide⟩
abbrev mX10_degree : zM := (yX10_degree, cX10_degree, 7, (some .int))
theorem md_X10_degree : z_MD mX10_degree 3 := ⟨(lw_good_at w_1543 rfl), (lw_good_at w_123 rfl), by decide, by decide, by decide +kernel, by decide⟩
abbrev mX10_row : zM := (yX10_row, cX10_row, 3, (some .int))
theorem md_X10_row : z_MD mX10_row 2 := ⟨(lw_good_at w_1547 rfl), (lw_good_at w_123 rfl), by decide, by decide, by decide +kernel, by decide⟩
abbrev mX10_lays : zM := (yX10_lays, cX10_lays, 4, none)
theorem md_X10_lays : z_MD mX10_lays 1 := ⟨(lw_good_at w_1555 rfl), (lw_good_at w_123 rfl), by decide, by decide, by decide +kernel, by decide⟩
abbrev mX10_laysCard : zM := (yX10_laysCard, cX10_laysCard, 6, none)
theorem md_X10_laysCard : z_MD mX10_laysCard 2 := ⟨(lw_good_at w_1813 rfl), (lw_good_at w_123 rfl), by decide, by decide, by decide +kernel, by decide⟩
abbrev mX10_laysTurned : zM := (yX10_laysTurned, cX10_laysTurned, 4, none)
theorem md_X10_laysTurned : z_MD mX10_laysTurned 1 := ⟨(lw_good_at w_1821 rfl), (lw_good_at w_123 rfl), by decide, by decide, by decide +kernel, by decide⟩
abbrev mX10_laysSigns : zM := (yX10_laysSigns, cX10_laysSigns, 4, none)
theorem md_X10_laysSigns : z_MD mX10_laysSigns 0 := ⟨(lw_good_at w_1571 rfl), (lw_good_at w_123 rfl), by decide, by decide, by decide +kernel, by decide⟩
abbrev mX10_compares : zM := (yX10_compares, cX10_compares, 6, (some .int))
theorem md_X10_compares : z_MD mX10_compares 5 := ⟨(lw_good_at w_1578 rfl), (lw_good_at w_123 rfl), by decide, by decide, by decide +kernel, by decide⟩
abbrev mX10_rankOf : zM := (yX10_rankOf, cX10_rankOf, 6, (some .int))
theorem md_X10_rankOf : z_MD mX10_rankOf 1 := ⟨(lw_good_at w_1575 rfl), (lw_good_at w_123 rfl), by decide, by decide, by decide +kernel, by decide⟩
abbrev mX10_goesRound : zM := (yX10_goesRound, cX10_goesRound, 4, (some .boolean))
theorem md_X10_goesRound : z_MD mX10_goesRound 0 := ⟨(lw_good_at w_1567 rfl), (lw_good_at w_123 rfl), by decide, by decide, by decide +kernel, by decide⟩
abbrev mX10_refines : zM := (yX10_refines, cX10_refines, 2, (some .int))
theorem md_X10_refines : z_MD mX10_refines 0 := ⟨(lw_good_at w_1563 rfl), (lw_good_at w_123 rfl), by decide, by decide, by decide +kernel, by decide⟩
abbrev mX10_laysColours : zM := (yX10_laysColours, cX10_laysColours, 4, none)
theorem md_X10_laysColours : z_MD mX10_laysColours 0 := ⟨(lw_good_at w_1559 rfl), (lw_good_at w_123 rfl), by decide, by decide, by decide +kernel, by decide⟩
abbrev mX10_sizeOf : zM := (yX10_sizeOf, cX10_sizeOf, 4, (some .int))
theorem md_X10_sizeOf : z_MD mX10_sizeOf 1 := ⟨(lw_good_at w_1586 rfl), (lw_good_at w_123 rfl), by decide, by decide, by decide +kernel, by decide⟩
abbrev mX10_targetCell : zM := (yX10_targetCell, cX10_targetCell, 3, (some .int))
theorem md_X10_targetCell : z_MD mX10_targetCell 0 := ⟨(lw_good_at w_1582 rfl), (lw_good_at w_123 rfl), by decide, by decide, by decide +kernel, by decide⟩
abbrev mX10_setOf : zM := (yX10_setOf, cX10_setOf, 4, (some .int))
theorem md_X10_setOf : z_MD mX10_setOf 1 := ⟨(lw_good_at w_1590 rfl), (lw_good_at w_123 rfl), by decide, by decide, by decide +kernel, by decide⟩
abbrev mX10_setsApart : zM := (yX10_setsApart, cX10_setsApart, 4, none)
theorem md_X10_setsApart : z_MD mX10_setsApart 1 := ⟨(lw_good_at w_1606 rfl), (lw_good_at w_123 rfl), by decide, by decide, by decide +kernel, by decide⟩
abbrev mX10_markOf : zM := (yX10_markOf, cX10_markOf, 4, (some .int))
theorem md_X10_markOf : z_MD mX10_markOf 1 := ⟨(lw_good_at w_1610 rfl), (lw_good_at w_123 rfl), by decide, by decide, by decide +kernel, by decide⟩
abbrev mX10_starts : zM := (yX10_starts, cX10_starts, 1, (some .int))
theorem md_X10_starts : z_MD mX10_starts 0 := ⟨(lw_good_at w_1598 rfl), (lw_good_at w_123 rfl), by decide, by decide, by decide +kernel, by decide⟩
abbrev mX10_start : zM := (yX10_start, cX10_start, 5, (some .int))
theorem md_X10_start : z_MD mX10_start 2 := ⟨(lw_good_at w_1551 rfl), (lw_good_at w_123 rfl), by decide, by decide, by decide +kernel, by decide⟩
abbrev mX10_cell : zM := (yX10_cell, cX10_cell, 3, (some .int))
theorem md_X10_cell : z_MD mX10_cell 2 := ⟨(lw_good_at w_1594 rfl), (lw_good_at w_123 rfl), by decide, by decide, by decide +kernel, by decide⟩
abbrev mX10_apart : zM := (yX10_apart, cX10_apart, 6, (some .int))
theorem md_X10_apart : z_MD mX10_apart 3 := ⟨(lw_good_at w_1602 rfl), (lw_good_at w_123 rfl), by decide, by decide, by decide +kernel, by decide⟩
abbrev mX10_base : zM := (yX10_base, cX10_base, 3, (some .int))
theorem md_X10_base : z_MD mX10_base 2 := ⟨(lw_good_at w_1614 rfl), (lw_good_at w_123 rfl), by decide, by decide, by decide +kernel, by decide⟩
abbrev mX10_cellsBy : zM := (yX10_cellsBy, cX10_cellsBy, 3, (some .int))
theorem md_X10_cellsBy : z_MD mX10_cellsBy 1 := ⟨(lw_good_at w_1622 rfl), (lw_good_at w_123 rfl), by decide, by decide, by decide +kernel, by decide⟩
abbrev mX10_fewest : zM := (yX10_fewest, cX10_fewest, 4, (some .int))
theorem md_X10_fewest : z_MD mX10_fewest 1 := ⟨(lw_good_at w_1626 rfl), (lw_good_at w_123 rfl), by decide, by decide, by decide +kernel, by decide⟩
abbrev mX10_codeLong : zM := (yX10_codeLong, cX10_codeLong, 1, (some .int))
theorem md_X10_codeLong : z_MD mX10_codeLong 0 := ⟨(lw_good_at w_1654 rfl), (lw_good_at w_123 rfl), by decide, by decide, by decide +kernel, by decide⟩
abbrev mX10_vertexIn : zM := (yX10_vertexIn, cX10_vertexIn, 3, (some .int))
theorem md_X10_vertexIn : z_MD mX10_vertexIn 1 := ⟨(lw_good_at w_1646 rfl), (lw_good_at w_123 rfl), by decide, by decide, by decide +kernel, by decide⟩
abbrev mX10_laysCode : zM := (yX10_laysCode, cX10_laysCode, 4, none)
theorem md_X10_laysCode : z_MD mX10_laysCode 0 := ⟨(lw_good_at w_1642 rfl), (lw_good_at w_123 rfl), by decide, by decide, by decide +kernel, by decide⟩
abbrev mX10_comparesBest : zM := (yX10_comparesBest, cX10_comparesBest, 4, (some .int))
theorem md_X10_comparesBest : z_MD mX10_comparesBest 1 := ⟨(lw_good_at w_1650 rfl), (lw_good_at w_123 rfl), by decide, by decide, by decide +kernel, by decide⟩
abbrev mX10_isBest : zM := (yX10_isBest, cX10_isBest, 3, none)
theorem md_X10_isBest : z_MD mX10_isBest 1 := ⟨(lw_good_at w_1658 rfl), (lw_good_at w_123 rfl), by decide, by decide, by decide +kernel, by decide⟩
abbrev mX10_saves : zM := (yX10_saves, cX10_saves, 3, none)
theorem md_X10_saves : z_MD mX10_saves 1 := ⟨(lw_good_at w_1662 rfl), (lw_good_at w_123 rfl), by decide, by decide, by decide +kernel, by decide⟩
abbrev mX10_comesBack : zM := (yX10_comesBack, cX10_comesBack, 4, none)
theorem md_X10_comesBack : z_MD mX10_comesBack 2 := ⟨(lw_good_at w_1666 rfl), (lw_good_at w_123 rfl), by decide, by decide, by decide +kernel, by decide⟩
abbrev mX10_walks : zM := (yX10_walks, cX10_walks, 6, none)
theorem md_X10_walks : z_MD mX10_walks 1 := ⟨(lw_good_at w_1638 rfl), (lw_good_at w_123 rfl), by decide, by decide, by decide +kernel, by decide⟩
abbrev mX10_walksAll : zM := (yX10_walksAll, cX10_walksAll, 1, none)
theorem md_X10_walksAll : z_MD mX10_walksAll 0 := ⟨(lw_good_at w_1634 rfl), (lw_good_at w_123 rfl), by decide, by decide, by decide +kernel, by decide⟩
abbrev mX10_tree : zM := (yX10_tree, cX10_tree, 3, (some .int))
theorem md_X10_tree : z_MD mX10_tree 2 := ⟨(lw_good_at w_1630 rfl), (lw_good_at w_123 rfl), by decide, by decide, by decide +kernel, by decide⟩
abbrev mX10_name : zM := (yX10_name, cX10_name, 3, (some .int))
theorem md_X10_name : z_MD mX10_name 2 := ⟨(lw_good_at w_1670 rfl), (lw_good_at w_123 rfl), by decide, by decide, by decide +kernel, by decide⟩
abbrev mX10_place : zM := (yX10_place, cX10_place, 3, (some .int))
theorem md_X10_place : z_MD mX10_place 2 := ⟨(lw_good_at w_1674 rfl), (lw_good_at w_123 rfl), by decide, by decide, by decide +kernel, by decide⟩
abbrev mX10_keepsName : zM := (yX10_keepsName, cX10_keepsName, 3, none)
theorem md_X10_keepsName : z_MD mX10_keepsName 1 := ⟨(lw_good_at w_1682 rfl), (lw_good_at w_123 rfl), by decide, by decide, by decide +kernel, by decide⟩
abbrev mX10_less : zM := (yX10_less, cX10_less, 4, (some .int))
theorem md_X10_less : z_MD mX10_less 2 := ⟨(lw_good_at w_1678 rfl), (lw_good_at w_123 rfl), by decide, by decide, by decide +kernel, by decide⟩
abbrev mX10_isLikeFirst : zM := (yX10_isLikeFirst, cX10_isLikeFirst, 2, (some .boolean))
theorem md_X10_isLikeFirst : z_MD mX10_isLikeFirst 1 := ⟨(lw_good_at w_1706 rfl), (lw_good_at w_123 rfl), by decide, by decide, by decide +kernel, by decide⟩
abbrev mX10_isFirst : zM := (yX10_isFirst, cX10_isFirst, 3, none)
theorem md_X10_isFirst : z_MD mX10_isFirst 1 := ⟨(lw_good_at w_1702 rfl), (lw_good_at w_123 rfl), by decide, by decide, by decide +kernel, by decide⟩
abbrev mX10_generates : zM := (yX10_generates, cX10_generates, 4, none)
theorem md_X10_generates : z_MD mX10_generates 1 := ⟨(lw_good_at w_1710 rfl), (lw_good_at w_123 rfl), by decide, by decide, by decide +kernel, by decide⟩
abbrev mX10_sentBy : zM := (yX10_sentBy, cX10_sentBy, 2, (some .int))
theorem md_X10_sentBy : z_MD mX10_sentBy 2 := ⟨(lw_good_at w_1721 rfl), (lw_good_at w_123 rfl), by decide, by decide, by decide +kernel, by decide⟩
abbrev mX10_comesToLeaf : zM := (yX10_comesToLeaf, cX10_comesToLeaf, 3, none)
theorem md_X10_comesToLeaf : z_MD mX10_comesToLeaf 1 := ⟨(lw_good_at w_1698 rfl), (lw_good_at w_123 rfl), by decide, by decide, by decide +kernel, by decide⟩
abbrev mX10_leavesPath : zM := (yX10_leavesPath, cX10_leavesPath, 4, (some .boolean))
theorem md_X10_leavesPath : z_MD mX10_leavesPath 2 := ⟨(lw_good_at w_1718 rfl), (lw_good_at w_123 rfl), by decide, by decide, by decide +kernel, by decide⟩
abbrev mX10_comesTo : zM := (yX10_comesTo, cX10_comesTo, 8, (some .boolean))
theorem md_X10_comesTo : z_MD mX10_comesTo 3 := ⟨(lw_good_at w_1714 rfl), (lw_good_at w_123 rfl), by decide, by decide, by decide +kernel, by decide⟩
abbrev mX10_sentSet : zM := (yX10_sentSet, cX10_sentSet, 5, (some .int))
theorem md_X10_sentSet : z_MD mX10_sentSet 2 := ⟨(lw_good_at w_1725 rfl), (lw_good_at w_123 rfl), by decide, by decide, by decide +kernel, by decide⟩
abbrev mX10_isCut : zM := (yX10_isCut, cX10_isCut, 2, (some .boolean))
theorem md_X10_isCut : z_MD mX10_isCut 1 := ⟨(lw_good_at w_1729 rfl), (lw_good_at w_123 rfl), by decide, by decide, by decide +kernel, by decide⟩
abbrev mX10_searches : zM := (yX10_searches, cX10_searches, 7, none)
theorem md_X10_searches : z_MD mX10_searches 1 := ⟨(lw_good_at w_1694 rfl), (lw_good_at w_123 rfl), by decide, by decide, by decide +kernel, by decide⟩
abbrev mX10_searchesAll : zM := (yX10_searchesAll, cX10_searchesAll, 1, none)
theorem md_X10_searchesAll : z_MD mX10_searchesAll 0 := ⟨(lw_good_at w_1690 rfl), (lw_good_at w_123 rfl), by decide, by decide, by decide +kernel, by decide⟩
abbrev mX10_search : zM := (yX10_search, cX10_search, 3, (some .int))
theorem md_X10_search : z_MD mX10_search 2 := ⟨(lw_good_at w_1686 rfl), (lw_good_at w_123 rfl), by decide, by decide, by decide +kernel, by decide⟩
abbrev mX10_generator : zM := (yX10_generator, cX10_generator, 4, (some .int))
theorem md_X10_generator : z_MD mX10_generator 3 := ⟨(lw_good_at w_1733 rfl), (lw_good_at w_123 rfl), by decide, by decide, by decide +kernel, by decide⟩
abbrev mX10_laysOther : zM := (yX10_laysOther, cX10_laysOther, 3, none)
theorem md_X10_laysOther : z_MD mX10_laysOther 0 := ⟨(lw_good_at w_1745 rfl), (lw_good_at w_123 rfl), by decide, by decide, by decide +kernel, by decide⟩
abbrev mX10_fits : zM := (yX10_fits, cX10_fits, 4, (some .boolean))
theorem md_X10_fits : z_MD mX10_fits 2 := ⟨(lw_good_at w_1757 rfl), (lw_good_at w_123 rfl), by decide, by decide, by decide +kernel, by decide⟩
abbrev mX10_mapsFrom : zM := (yX10_mapsFrom, cX10_mapsFrom, 4, none)
theorem md_X10_mapsFrom : z_MD mX10_mapsFrom 1 := ⟨(lw_good_at w_1753 rfl), (lw_good_at w_123 rfl), by decide, by decide, by decide +kernel, by decide⟩
abbrev mX10_mapsAll : zM := (yX10_mapsAll, cX10_mapsAll, 3, none)
theorem md_X10_mapsAll : z_MD mX10_mapsAll 1 := ⟨(lw_good_at w_1749 rfl), (lw_good_at w_123 rfl), by decide, by decide, by decide +kernel, by decide⟩
abbrev mX10_laysMaps : zM := (yX10_laysMaps, cX10_laysMaps, 4, none)
theorem md_X10_laysMaps : z_MD mX10_laysMaps 3 := ⟨(lw_good_at w_1741 rfl), (lw_good_at w_123 rfl), by decide, by decide, by decide +kernel, by decide⟩
abbrev mX10_symmetries : zM := (yX10_symmetries, cX10_symmetries, 6, (some .int))
theorem md_X10_symmetries : z_MD mX10_symmetries 2 := ⟨(lw_good_at w_1737 rfl), (lw_good_at w_123 rfl), by decide, by decide, by decide +kernel, by decide⟩
abbrev mX10_orbit : zM := (yX10_orbit, cX10_orbit, 3, (some .int))
theorem md_X10_orbit : z_MD mX10_orbit 2 := ⟨(lw_good_at w_1761 rfl), (lw_good_at w_123 rfl), by decide, by decide, by decide +kernel, by decide⟩
abbrev mX10_leave : zM := (yX10_leave, cX10_leave, 3, (some .int))
theorem md_X10_leave : z_MD mX10_leave 2 := ⟨(lw_good_at w_1765 rfl), (lw_good_at w_123 rfl), by decide, by decide, by decide +kernel, by decide⟩
abbrev mX10_maps : zM := (yX10_maps, cX10_maps, 3, (some .int))
theorem md_X10_maps : z_MD mX10_maps 2 := ⟨(lw_good_at w_1769 rfl), (lw_good_at w_123 rfl), by decide, by decide, by decide +kernel, by decide⟩
abbrev mX10_map : zM := (yX10_map, cX10_map, 4, (some .int))
theorem md_X10_map : z_MD mX10_map 3 := ⟨(lw_good_at w_1773 rfl), (lw_good_at w_123 rfl), by decide, by decide, by decide +kernel, by decide⟩
abbrev mX10_changesFrom : zM := (yX10_changesFrom, cX10_changesFrom, 7, none)
theorem md_X10_changesFrom : z_MD mX10_changesFrom 3 := ⟨(lw_good_at w_1781 rfl), (lw_good_at w_123 rfl), by decide, by decide, by decide +kernel, by decide⟩
abbrev mX10_changes : zM := (yX10_changes, cX10_changes, 3, (some .int))
theorem md_X10_changes : z_MD mX10_changes 2 := ⟨(lw_good_at w_1777 rfl), (lw_good_at w_123 rfl), by decide, by decide, by decide +kernel, by decide⟩
abbrev mX10_areColoursAlike : zM := (yX10_areColoursAlike, cX10_areColoursAlike, 4, (some .boolean))
theorem md_X10_areColoursAlike : z_MD mX10_areColoursAlike 0 := ⟨(lw_good_at w_1793 rfl), (lw_good_at w_123 rfl), by decide, by decide, by decide +kernel, by decide⟩
abbrev mX10_laysOtherSigns : zM := (yX10_laysOtherSigns, cX10_laysOtherSigns, 4, none)
theorem md_X10_laysOtherSigns : z_MD mX10_laysOtherSigns 0 := ⟨(lw_good_at w_1797 rfl), (lw_good_at w_123 rfl), by decide, by decide, by decide +kernel, by decide⟩
abbrev mX10_areSignsAlike : zM := (yX10_areSignsAlike, cX10_areSignsAlike, 4, (some .boolean))
theorem md_X10_areSignsAlike : z_MD mX10_areSignsAlike 0 := ⟨(lw_good_at w_1801 rfl), (lw_good_at w_123 rfl), by decide, by decide, by decide +kernel, by decide⟩
abbrev mX10_laysOtherCells : zM := (yX10_laysOtherCells, cX10_laysOtherCells, 3, none)
theorem md_X10_laysOtherCells : z_MD mX10_laysOtherCells 0 := ⟨(lw_good_at w_1805 rfl), (lw_good_at w_123 rfl), by decide, by decide, by decide +kernel, by decide⟩
abbrev mX10_toldBy : zM := (yX10_toldBy, cX10_toldBy, 3, (some .int))
theorem md_X10_toldBy : z_MD mX10_toldBy 0 := ⟨(lw_good_at w_1789 rfl), (lw_good_at w_123 rfl), by decide, by decide, by decide +kernel, by decide⟩
abbrev mX10_told : zM := (yX10_told, cX10_told, 3, (some .int))
theorem md_X10_told : z_MD mX10_told 2 := ⟨(lw_good_at w_1785 rfl), (lw_good_at w_123 rfl), by decide, by decide, by decide +kernel, by decide⟩
abbrev mX10_cards : zM := (yX10_cards, cX10_cards, 9, (some .int))
theorem md_X10_cards : z_MD mX10_cards 2 := ⟨(lw_good_at w_1809 rfl), (lw_good_at w_123 rfl), by decide, by decide, by decide +kernel, by decide⟩
abbrev mX10_turned : zM := (yX10_turned, cX10_turned, 2, (some .int))
theorem md_X10_turned : z_MD mX10_turned 1 := ⟨(lw_good_at w_1817 rfl), (lw_good_at w_123 rfl), by decide, by decide, by decide +kernel, by decide⟩
abbrev mX10_keeps : zM := (yX10_keeps, cX10_keeps, 2, none)
theorem md_X10_keeps : z_MD mX10_keeps 0 := ⟨(lw_good_at w_1496 rfl), (lw_good_at w_123 rfl), by decide, by decide, by decide +kernel, by decide⟩
abbrev mX10_putsKind : zM := (yX10_putsKind, cX10_putsKind, 5, none)
theorem md_X10_putsKind : z_MD mX10_putsKind 4 := ⟨(lw_good_at w_1829 rfl), (lw_good_at w_123 rfl), by decide, by decide, by decide +kernel, by decide⟩
abbrev mX10_link : zM := (yX10_link, cX10_link, 6, (some .int))
theorem md_X10_link : z_MD mX10_link 4 := ⟨(lw_good_at w_1825 rfl), (lw_good_at w_123 rfl), by decide, by decide, by decide +kernel, by decide⟩
abbrev mX10_paint : zM := (yX10_paint, cX10_paint, 5, (some .int))
theorem md_X10_paint : z_MD mX10_paint 3 := ⟨(lw_good_at w_1833 rfl), (lw_good_at w_123 rfl), by decide, by decide, by decide +kernel, by decide⟩
abbrev mX10_swaps : zM := (yX10_swaps, cX10_swaps, 7, none)
theorem md_X10_swaps : z_MD mX10_swaps 3 := ⟨(lw_good_at w_1841 rfl), (lw_good_at w_123 rfl), by decide, by decide, by decide +kernel, by decide⟩
abbrev mX10_swap : zM := (yX10_swap, cX10_swap, 5, (some .int))
theorem md_X10_swap : z_MD mX10_swap 3 := ⟨(lw_good_at w_1837 rfl), (lw_good_at w_123 rfl), by decide, by decide, by decide +kernel, by decide⟩
abbrev mX10_draw : zM := (yX10_draw, cX10_draw, 2, (some .int))
theorem md_X10_draw : z_MD mX10_draw 1 := ⟨(lw_good_at w_1850 rfl), (lw_good_at w_123 rfl), by decide, by decide, by decide +kernel, by decide⟩
abbrev mX10_shuffle : zM := (yX10_shuffle, cX10_shuffle, 6, (some .int))
theorem md_X10_shuffle : z_MD mX10_shuffle 2 := ⟨(lw_good_at w_1845 rfl), (lw_good_at w_123 rfl), by decide, by decide, by decide +kernel, by decide⟩
abbrev mX10_copy : zM := (yX10_copy, cX10_copy, 4, (some .int))
theorem md_X10_copy : z_MD mX10_copy 2 := ⟨(lw_good_at w_1856 rfl), (lw_good_at w_123 rfl), by decide, by decide, by decide +kernel, by decide⟩
abbrev mX10_becomesLaid : zM := (yX10_becomesLaid, cX10_becomesLaid, 4, none)
theorem md_X10_becomesLaid : z_MD mX10_becomesLaid 1 := ⟨(lw_good_at w_1864 rfl), (lw_good_at w_123 rfl), by decide, by decide, by decide +kernel, by decide⟩
abbrev mX10_turn : zM := (yX10_turn, cX10_turn, 2, (some .int))
theorem md_X10_turn : z_MD mX10_turn 1 := ⟨(lw_good_at w_1860 rfl), (lw_good_at w_123 rfl), by decide, by decide, by decide +kernel, by decide⟩
abbrev mX10_drop : zM := (yX10_drop, cX10_drop, 3, (some .int))
theorem md_X10_drop : z_MD mX10_drop 2 := ⟨(lw_good_at w_1868 rfl), (lw_good_at w_123 rfl), by decide, by decide, by decide +kernel, by decide⟩
abbrev mX10_grow : zM := (yX10_grow, cX10_grow, 6, (some .int))
theorem md_X10_grow : z_MD mX10_grow 3 := ⟨(lw_good_at w_1872 rfl), (lw_good_at w_123 rfl), by decide, by decide, by decide +kernel, by decide⟩
abbrev mX10_undo : zM := (yX10_undo, cX10_undo, 2, (some .int))
theorem md_X10_undo : z_MD mX10_undo 0 := ⟨(lw_good_at w_1876 rfl), (lw_good_at w_123 rfl), by decide, by decide, by decide +kernel, by decide⟩
abbrev mX10_image : zM := (yX10_image, cX10_image, 3, (some .boolean))
theorem md_X10_image : z_MD mX10_image 1 := ⟨(lw_good_at w_1880 rfl), (lw_good_at w_123 rfl), by decide, by decide, by decide +kernel, by decide⟩
abbrev mX10_again : zM := (yX10_again, cX10_again, 3, (some .boolean))
theorem md_X10_again : z_MD mX10_again 1 := ⟨(lw_good_at w_1884 rfl), (lw_good_at w_123 rfl), by decide, by decide, by decide +kernel, by decide⟩
abbrev mJ6_compare_7cf53 : zM := (yJ6_compare_7cf53, cJ6_compare_7cf53, 2, (some .int))
theorem md_J6_compare_7cf53 : z_MD mJ6_compare_7cf53 2 := ⟨(lw_good_at w_824 rfl), (lw_good_at w_130 rfl), by decide, by decide, by decide +kernel, by decide⟩
abbrev mJ6_numberOfTrailingZeros_0f7a4 : zM := (yJ6_numberOfTrailingZeros_0f7a4, cJ6_numberOfTrailingZeros_0f7a4, 2, (some .int))
theorem md_J6_numberOfTrailingZeros_0f7a4 : z_MD mJ6_numberOfTrailingZeros_0f7a4 1 := ⟨(lw_good_at w_804 rfl), (lw_good_at w_130 rfl), by decide, by decide, by decide +kernel, by decide⟩
abbrev mJ6_bitCount_0f7a4 : zM := (yJ6_bitCount_0f7a4, cJ6_bitCount_0f7a4, 1, (some .int))
theorem md_J6_bitCount_0f7a4 : z_MD mJ6_bitCount_0f7a4 1 := ⟨(lw_good_at w_687 rfl), (lw_good_at w_130 rfl), by decide, by decide, by decide +kernel, by decide⟩
abbrev mJ9_max_7cf53 : zM := (yJ9_max_7cf53, cJ9_max_7cf53, 2, (some .int))
theorem md_J9_max_7cf53 : z_MD mJ9_max_7cf53 2 := ⟨(lw_good_at w_701 rfl), (lw_good_at w_129 rfl), by decide, by decide, by decide +kernel, by decide⟩
abbrev mJ9_min_7cf53 : zM := (yJ9_min_7cf53, cJ9_min_7cf53, 2, (some .int))
theorem md_J9_min_7cf53 : z_MD mJ9_min_7cf53 2 := ⟨(lw_good_at w_662 rfl), (lw_good_at w_129 rfl), by decide, by decide, by decide +kernel, by decide⟩
abbrev mJ0_length_8abf5 : zM := (yJ0_length_8abf5, cJ0_length_8abf5, 1, (some .int))
theorem md_J0_length_8abf5 : z_MD mJ0_length_8abf5 0 := ⟨(lw_good_at w_548 rfl), (lw_good_at w_124 rfl), by decide, by decide, by decide +kernel, by decide⟩
abbrev mJ0_charAt_5068e : zM := (yJ0_charAt_5068e, cJ0_charAt_5068e, 2, (some .char))
theorem md_J0_charAt_5068e : z_MD mJ0_charAt_5068e 1 := ⟨(lw_good_at w_558 rfl), (lw_good_at w_124 rfl), by decide, by decide, by decide +kernel, by decide⟩
abbrev mJ0_coder_7d493 : zM := (yJ0_coder_7d493, cJ0_coder_7d493, 1, (some .byte))
theorem md_J0_coder_7d493 : z_MD mJ0_coder_7d493 0 := ⟨(lw_good_at w_552 rfl), (lw_good_at w_124 rfl), by decide, by decide, by decide +kernel, by decide⟩
abbrev mJ0_isLatin1_aae02 : zM := (yJ0_isLatin1_aae02, cJ0_isLatin1_aae02, 1, (some .boolean))
theorem md_J0_isLatin1_aae02 : z_MD mJ0_isLatin1_aae02 0 := ⟨(lw_good_at w_562 rfl), (lw_good_at w_124 rfl), by decide, by decide, by decide +kernel, by decide⟩
abbrev mJ0_checkIndex_df160 : zM := (yJ0_checkIndex_df160, cJ0_checkIndex_df160, 2, none)
theorem md_J0_checkIndex_df160 : z_MD mJ0_checkIndex_df160 2 := ⟨(lw_good_at w_568 rfl), (lw_good_at w_124 rfl), by decide, by decide, by decide +kernel, by decide⟩
abbrev mJ1_charAt_3b067 : zM := (yJ1_charAt_3b067, cJ1_charAt_3b067, 2, (some .char))
theorem md_J1_charAt_3b067 : z_MD mJ1_charAt_3b067 2 := ⟨(lw_good_at w_565 rfl), (lw_good_at w_125 rfl), by decide, by decide, by decide +kernel, by decide⟩
abbrev mJ2_getChar_3b067 : zM := (yJ2_getChar_3b067, cJ2_getChar_3b067, 2, (some .char))
theorem md_J2_getChar_3b067 : z_MD mJ2_getChar_3b067 2 := ⟨(lw_good_at w_586 rfl), (lw_good_at w_127 rfl), by decide, by decide, by decide +kernel, by decide⟩
abbrev mJ2_length_9d52b : zM := (yJ2_length_9d52b, cJ2_length_9d52b, 1, (some .int))
theorem md_J2_length_9d52b : z_MD mJ2_length_9d52b 1 := ⟨(lw_good_at w_582 rfl), (lw_good_at w_127 rfl), by decide, by decide, by decide +kernel, by decide⟩
abbrev mJ2_charAt_3b067 : zM := (yJ2_charAt_3b067, cJ2_charAt_3b067, 2, (some .char))
theorem md_J2_charAt_3b067 : z_MD mJ2_charAt_3b067 2 := ⟨(lw_good_at w_576 rfl), (lw_good_at w_127 rfl), by decide, by decide, by decide +kernel, by decide⟩
abbrev mJ2_checkIndex_2214a : zM := (yJ2_checkIndex_2214a, cJ2_checkIndex_2214a, 2, none)
theorem md_J2_checkIndex_2214a : z_MD mJ2_checkIndex_2214a 2 := ⟨(lw_good_at w_579 rfl), (lw_good_at w_127 rfl), by decide, by decide, by decide +kernel, by decide⟩
abbrev mJ3_checkIndex_8e157 : zM := (yJ3_checkIndex_8e157, cJ3_checkIndex_8e157, 3, (some .int))
theorem md_J3_checkIndex_8e157 : z_MD mJ3_checkIndex_8e157 3 := ⟨(lw_good_at w_573 rfl), (lw_good_at w_126 rfl), by decide, by decide, by decide +kernel, by decide⟩
theorem lk_X0_35 : z_LV "GraphNames$Cells" 35 "GraphNames$Cells" mX0_byColours := ⟨(lw_good_at w_751 rfl), (lw_good_at w_692 rfl), (lw_good_at w_693 rfl)⟩
theorem lk_X0_39 : z_LV "GraphNames$Cells" 39 "GraphNames$Cells" mX0_refine := ⟨(lw_good_at w_752 rfl), (lw_good_at w_721 rfl), (lw_good_at w_722 rfl)⟩
theorem lk_X0_48 : z_LV "GraphNames$Cells" 48 "GraphNames$Cells" mX0_divide := ⟨(lw_good_at w_724 rfl), (lw_good_at w_725 rfl), (lw_good_at w_726 rfl)⟩
theorem lk_X0_52 : z_LV "GraphNames$Cells" 52 "GraphNames$Cells" mX0_signOf := ⟨(lw_good_at w_728 rfl), (lw_good_at w_730 rfl), (lw_good_at w_15 rfl)⟩
theorem lk_X0_56 : z_LV "GraphNames$Cells" 56 "GraphNames$Cells" mX0_split := ⟨(lw_good_at w_733 rfl), (lw_good_at w_735 rfl), (lw_good_at w_16 rfl)⟩
theorem lk_X0_70 : z_LS "GraphNames$Cells" 70 mJ6_bitCount_0f7a4 := ⟨(lw_good_at w_686 rfl), Or.inl (lw_good_at w_732 rfl)⟩
theorem lk_X0_78 : z_LS "GraphNames$Cells" 78 mX9_in := ⟨(lw_good_at w_631 rfl), Or.inr ⟨"GraphNames", (lw_nest_at w_762 rfl)⟩⟩
theorem lk_X1_27 : z_LS "GraphNames$Graph" 27 mJ6_bitCount_0f7a4 := ⟨(lw_good_at w_686 rfl), Or.inl (lw_good_at w_685 rfl)⟩
theorem lk_X1_33 : z_LS "GraphNames$Graph" 33 mJ9_max_7cf53 := ⟨(lw_good_at w_700 rfl), Or.inl (lw_good_at w_699 rfl)⟩
theorem lk_X1_39 : z_LV "GraphNames$Graph" 39 "GraphNames$Graph" mX1_join := ⟨(lw_good_at w_605 rfl), (lw_good_at w_606 rfl), (lw_good_at w_607 rfl)⟩
theorem lk_X1_47 : z_LV "GraphNames$Graph" 47 "GraphNames$Graph" mX1_exchange := ⟨(lw_good_at w_1001 rfl), (lw_good_at w_1002 rfl), (lw_good_at w_1003 rfl)⟩
theorem lk_X1_51 : z_LS "GraphNames$Graph" 51 mX9_in := ⟨(lw_good_at w_631 rfl), Or.inr ⟨"GraphNames", (lw_nest_at w_1084 rfl)⟩⟩
theorem lk_X2_38 : z_LS "GraphNames$Leaf" 38 mJ6_numberOfTrailingZeros_0f7a4 := ⟨(lw_good_at w_803 rfl), Or.inl (lw_good_at w_802 rfl)⟩
theorem lk_X2_51 : z_LS "GraphNames$Leaf" 51 mJ9_min_7cf53 := ⟨(lw_good_at w_661 rfl), Or.inl (lw_good_at w_821 rfl)⟩
theorem lk_X2_57 : z_LS "GraphNames$Leaf" 57 mJ6_compare_7cf53 := ⟨(lw_good_at w_823 rfl), Or.inl (lw_good_at w_822 rfl)⟩
theorem lk_X2_60 : z_LV "GraphNames$Leaf" 60 "GraphNames$Leaf" mX2_compareCodes := ⟨(lw_good_at w_825 rfl), (lw_good_at w_826 rfl), (lw_good_at w_827 rfl)⟩
theorem lk_X3_24 : z_LI "GraphNames$Pairing" 24 mX1_init := ⟨(lw_good_at w_158 rfl), by decide, rfl, Or.inr ⟨"GraphNames", (lw_nest_at w_292 rfl)⟩⟩
theorem lk_X3_41 : z_LV "GraphNames$Pairing" 41 "GraphNames$Graph" mX1_take := ⟨(lw_good_at w_917 rfl), (lw_good_at w_654 rfl), (lw_good_at w_655 rfl)⟩
theorem lk_X3_48 : z_LV "GraphNames$Pairing" 48 "GraphNames$Pairing" mX3_send := ⟨(lw_good_at w_918 rfl), (lw_good_at w_920 rfl), (lw_good_at w_22 rfl)⟩
theorem lk_X3_52 : z_LV "GraphNames$Pairing" 52 "GraphNames$Pairing" mX3_note := ⟨(lw_good_at w_922 rfl), (lw_good_at w_924 rfl), (lw_good_at w_23 rfl)⟩
theorem lk_X3_55 : z_LS "GraphNames$Pairing" 55 mX9_in := ⟨(lw_good_at w_631 rfl), Or.inr ⟨"GraphNames", (lw_nest_at w_927 rfl)⟩⟩
theorem lk_X3_59 : z_LV "GraphNames$Pairing" 59 "GraphNames$Pairing" mX3_fits := ⟨(lw_good_at w_928 rfl), (lw_good_at w_930 rfl), (lw_good_at w_24 rfl)⟩
theorem lk_X3_62 : z_LV "GraphNames$Pairing" 62 "GraphNames$Pairing" mX3_unlike := ⟨(lw_good_at w_932 rfl), (lw_good_at w_934 rfl), (lw_good_at w_25 rfl)⟩
theorem lk_X3_79 : z_LV "GraphNames$Pairing" 79 "GraphNames$Pairing" mX3_weigh := ⟨(lw_good_at w_972 rfl), (lw_good_at w_974 rfl), (lw_good_at w_26 rfl)⟩
theorem lk_X4_28 : z_LI "GraphNames$Past" 28 mX1_init := ⟨(lw_good_at w_158 rfl), by decide, rfl, Or.inr ⟨"GraphNames", (lw_nest_at w_236 rfl)⟩⟩
theorem lk_X4_29 : z_LV "GraphNames$Past" 29 "GraphNames$Graph" mX1_take := ⟨(lw_good_at w_653 rfl), (lw_good_at w_654 rfl), (lw_good_at w_655 rfl)⟩
theorem lk_X4_33 : z_LS "GraphNames$Past" 33 mJ9_min_7cf53 := ⟨(lw_good_at w_661 rfl), Or.inl (lw_good_at w_660 rfl)⟩
theorem lk_X5_23 : z_LI "GraphNames$Reader" 23 mX1_init := ⟨(lw_good_at w_158 rfl), by decide, rfl, Or.inr ⟨"GraphNames", (lw_nest_at w_157 rfl)⟩⟩
theorem lk_X5_47 : z_LV "GraphNames$Reader" 47 "GraphNames$Reader" mX5_step := ⟨(lw_good_at w_529 rfl), (lw_good_at w_531 rfl), (lw_good_at w_2 rfl)⟩
theorem lk_X5_50 : z_LV "GraphNames$Reader" 50 "GraphNames$Reader" mX5_readSize := ⟨(lw_good_at w_536 rfl), (lw_good_at w_538 rfl), (lw_good_at w_3 rfl)⟩
theorem lk_X5_54 : z_LV "GraphNames$Reader" 54 "GraphNames$Reader" mX5_readLines := ⟨(lw_good_at w_609 rfl), (lw_good_at w_611 rfl), (lw_good_at w_7 rfl)⟩
theorem lk_X5_59 : z_LV "GraphNames$Reader" 59 "GraphNames$Reader" mX5_isWord := ⟨(lw_good_at w_541 rfl), (lw_good_at w_543 rfl), (lw_good_at w_4 rfl)⟩
theorem lk_X5_63 : z_LV "GraphNames$Reader" 63 "GraphNames$Reader" mX5_fails := ⟨(lw_good_at w_593 rfl), (lw_good_at w_595 rfl), (lw_good_at w_5 rfl)⟩
theorem lk_X5_67 : z_LV "GraphNames$Reader" 67 "GraphNames$Reader" mX5_digit := ⟨(lw_good_at w_597 rfl), (lw_good_at w_599 rfl), (lw_good_at w_6 rfl)⟩
theorem lk_X5_71 : z_LV "GraphNames$Reader" 71 "GraphNames$Graph" mX1_empty := ⟨(lw_good_at w_601 rfl), (lw_good_at w_602 rfl), (lw_good_at w_603 rfl)⟩
theorem lk_X5_75 : z_LV "GraphNames$Reader" 75 "GraphNames$Reader" mX5_readLine := ⟨(lw_good_at w_613 rfl), (lw_good_at w_615 rfl), (lw_good_at w_8 rfl)⟩
theorem lk_X5_80 : z_LV "GraphNames$Reader" 80 "GraphNames$Reader" mX5_readPaint := ⟨(lw_good_at w_618 rfl), (lw_good_at w_620 rfl), (lw_good_at w_9 rfl)⟩
theorem lk_X5_85 : z_LV "GraphNames$Reader" 85 "GraphNames$Reader" mX5_readLink := ⟨(lw_good_at w_634 rfl), (lw_good_at w_636 rfl), (lw_good_at w_11 rfl)⟩
theorem lk_X5_90 : z_LV "GraphNames$Reader" 90 "GraphNames$Reader" mX5_readChain := ⟨(lw_good_at w_644 rfl), (lw_good_at w_646 rfl), (lw_good_at w_13 rfl)⟩
theorem lk_X5_96 : z_LV "GraphNames$Reader" 96 "GraphNames$Reader" mX5_isVertex := ⟨(lw_good_at w_622 rfl), (lw_good_at w_624 rfl), (lw_good_at w_10 rfl)⟩
theorem lk_X5_99 : z_LS "GraphNames$Reader" 99 mX9_in := ⟨(lw_good_at w_631 rfl), Or.inr ⟨"GraphNames", (lw_nest_at w_630 rfl)⟩⟩
theorem lk_X5_106 : z_LV "GraphNames$Reader" 106 "GraphNames$Reader" mX5_joins := ⟨(lw_good_at w_638 rfl), (lw_good_at w_640 rfl), (lw_good_at w_12 rfl)⟩
theorem lk_X5_109 : z_LV "GraphNames$Reader" 109 "GraphNames$Graph" mX1_join := ⟨(lw_good_at w_642 rfl), (lw_good_at w_606 rfl), (lw_good_at w_607 rfl)⟩
theorem lk_X5_117 : z_LV "GraphNames$Reader" 117 "GraphNames$Graph" mX1_has := ⟨(lw_good_at w_626 rfl), (lw_good_at w_627 rfl), (lw_good_at w_628 rfl)⟩
theorem lk_X5_120 : z_LV "GraphNames$Reader" 120 "java/lang/String" mJ0_length_8abf5 := ⟨(lw_good_at w_545 rfl), (lw_good_at w_546 rfl), (lw_good_at w_547 rfl)⟩
theorem lk_X5_125 : z_LV "GraphNames$Reader" 125 "java/lang/String" mJ0_charAt_5068e := ⟨(lw_good_at w_555 rfl), (lw_good_at w_556 rfl), (lw_good_at w_557 rfl)⟩
theorem lk_X5_129 : z_LS "GraphNames$Reader" 129 mX5_isLetter := ⟨(lw_good_at w_534 rfl), Or.inl (lw_good_at w_533 rfl)⟩
theorem lk_X6_3 : z_LI "GraphNames$Search" 3 mX8_init := ⟨(lw_good_at w_327 rfl), by decide, rfl, Or.inl (lw_good_at w_326 rfl)⟩
theorem lk_X6_24 : z_LI "GraphNames$Search" 24 mX2_init := ⟨(lw_good_at w_337 rfl), by decide, rfl, Or.inr ⟨"GraphNames", (lw_nest_at w_366 rfl)⟩⟩
theorem lk_X6_29 : z_LV "GraphNames$Search" 29 "GraphNames$Search" mX6_spread := ⟨(lw_good_at w_846 rfl), (lw_good_at w_848 rfl), (lw_good_at w_18 rfl)⟩
theorem lk_X6_33 : z_LS "GraphNames$Search" 33 mX9_in := ⟨(lw_good_at w_631 rfl), Or.inr ⟨"GraphNames", (lw_nest_at w_854 rfl)⟩⟩
theorem lk_X6_37 : z_LV "GraphNames$Search" 37 "GraphNames$Search" mX6_leavesAlone := ⟨(lw_good_at w_850 rfl), (lw_good_at w_852 rfl), (lw_good_at w_19 rfl)⟩
theorem lk_X6_40 : z_LV "GraphNames$Search" 40 "GraphNames$Search" mX6_imageOf := ⟨(lw_good_at w_858 rfl), (lw_good_at w_860 rfl), (lw_good_at w_20 rfl)⟩
theorem lk_X6_52 : z_LS "GraphNames$Search" 52 mX9_sentTo := ⟨(lw_good_at w_856 rfl), Or.inr ⟨"GraphNames", (lw_nest_at w_855 rfl)⟩⟩
theorem lk_X6_67 : z_LV "GraphNames$Search" 67 "GraphNames$Leaf" mX2_take := ⟨(lw_good_at w_812 rfl), (lw_good_at w_813 rfl), (lw_good_at w_814 rfl)⟩
theorem lk_X6_71 : z_LV "GraphNames$Search" 71 "GraphNames$Leaf" mX2_compare := ⟨(lw_good_at w_817 rfl), (lw_good_at w_818 rfl), (lw_good_at w_819 rfl)⟩
theorem lk_X6_75 : z_LV "GraphNames$Search" 75 "GraphNames$Search" mX6_note := ⟨(lw_good_at w_829 rfl), (lw_good_at w_831 rfl), (lw_good_at w_17 rfl)⟩
theorem lk_X7_1 : z_LI "GraphNames$Tree" 1 mX8_init := ⟨(lw_good_at w_327 rfl), by decide, rfl, Or.inl (lw_good_at w_442 rfl)⟩
theorem lk_X7_25 : z_LS "GraphNames$Tree" 25 mJ9_max_7cf53 := ⟨(lw_good_at w_700 rfl), Or.inl (lw_good_at w_836 rfl)⟩
theorem lk_X7_37 : z_LV "GraphNames$Tree" 37 "GraphNames$Leaf" mX2_compare := ⟨(lw_good_at w_837 rfl), (lw_good_at w_818 rfl), (lw_good_at w_819 rfl)⟩
theorem lk_X7_41 : z_LV "GraphNames$Tree" 41 "GraphNames$Leaf" mX2_take := ⟨(lw_good_at w_838 rfl), (lw_good_at w_813 rfl), (lw_good_at w_814 rfl)⟩
theorem lk_X8_11 : z_LI "GraphNames$Walk" 11 mX1_init := ⟨(lw_good_at w_158 rfl), by decide, rfl, Or.inr ⟨"GraphNames", (lw_nest_at w_331 rfl)⟩⟩
theorem lk_X8_26 : z_LI "GraphNames$Walk" 26 mX2_init := ⟨(lw_good_at w_337 rfl), by decide, rfl, Or.inr ⟨"GraphNames", (lw_nest_at w_336 rfl)⟩⟩
theorem lk_X8_51 : z_LI "GraphNames$Walk" 51 mX0_init := ⟨(lw_good_at w_254 rfl), by decide, rfl, Or.inr ⟨"GraphNames", (lw_nest_at w_364 rfl)⟩⟩
theorem lk_X8_52 : z_LV "GraphNames$Walk" 52 "GraphNames$Graph" mX1_same := ⟨(lw_good_at w_777 rfl), (lw_good_at w_778 rfl), (lw_good_at w_779 rfl)⟩
theorem lk_X8_56 : z_LV "GraphNames$Walk" 56 "GraphNames$Graph" mX1_take := ⟨(lw_good_at w_781 rfl), (lw_good_at w_654 rfl), (lw_good_at w_655 rfl)⟩
theorem lk_X8_60_X6 : z_LU "GraphNames$Walk" 60 "GraphNames$Search" "GraphNames$Walk" ⟨"GraphNames$Walk", "forget", "()V"⟩ mX6_forget := ⟨(lw_good_at w_782 rfl), (lw_good_at w_784 rfl), (lw_good_at w_785 rfl), (lw_good_at w_786 rfl), Or.inr (lw_nest_at w_783 rfl), by decide, by decide, rfl⟩
theorem lk_X8_60_X7 : z_LU "GraphNames$Walk" 60 "GraphNames$Tree" "GraphNames$Walk" ⟨"GraphNames$Walk", "forget", "()V"⟩ mX7_forget := ⟨(lw_good_at w_782 rfl), (lw_good_at w_784 rfl), (lw_good_at w_788 rfl), (lw_good_at w_789 rfl), Or.inr (lw_nest_at w_783 rfl), by decide, by decide, rfl⟩
theorem lk_X8_63 : z_LV "GraphNames$Walk" 63 "GraphNames$Cells" mX0_begin := ⟨(lw_good_at w_791 rfl), (lw_good_at w_748 rfl), (lw_good_at w_749 rfl)⟩
theorem lk_X8_70 : z_LV "GraphNames$Walk" 70 "GraphNames$Cells" mX0_mark := ⟨(lw_good_at w_792 rfl), (lw_good_at w_764 rfl), (lw_good_at w_765 rfl)⟩
theorem lk_X8_78 : z_LV "GraphNames$Walk" 78 "GraphNames$Cells" mX0_target := ⟨(lw_good_at w_797 rfl), (lw_good_at w_740 rfl), (lw_good_at w_741 rfl)⟩
theorem lk_X8_81 : z_LV "GraphNames$Walk" 81 "GraphNames$Leaf" mX2_write := ⟨(lw_good_at w_798 rfl), (lw_good_at w_799 rfl), (lw_good_at w_800 rfl)⟩
theorem lk_X8_85_X6 : z_LU "GraphNames$Walk" 85 "GraphNames$Search" "GraphNames$Walk" ⟨"GraphNames$Walk", "reach", "()V"⟩ mX6_reach := ⟨(lw_good_at w_806 rfl), (lw_good_at w_808 rfl), (lw_good_at w_809 rfl), (lw_good_at w_810 rfl), Or.inr (lw_nest_at w_807 rfl), by decide, by decide, rfl⟩
theorem lk_X8_85_X7 : z_LU "GraphNames$Walk" 85 "GraphNames$Tree" "GraphNames$Walk" ⟨"GraphNames$Walk", "reach", "()V"⟩ mX7_reach := ⟨(lw_good_at w_806 rfl), (lw_good_at w_808 rfl), (lw_good_at w_833 rfl), (lw_good_at w_834 rfl), Or.inr (lw_nest_at w_807 rfl), by decide, by decide, rfl⟩
theorem lk_X8_91 : z_LS "GraphNames$Walk" 91 mX9_in := ⟨(lw_good_at w_631 rfl), Or.inr ⟨"GraphNames", (lw_nest_at w_839 rfl)⟩⟩
theorem lk_X8_95_X6 : z_LU "GraphNames$Walk" 95 "GraphNames$Search" "GraphNames$Walk" ⟨"GraphNames$Walk", "skips", "(III)Z"⟩ mX6_skips := ⟨(lw_good_at w_840 rfl), (lw_good_at w_842 rfl), (lw_good_at w_843 rfl), (lw_good_at w_844 rfl), Or.inr (lw_nest_at w_841 rfl), by decide, by decide, rfl⟩
theorem lk_X8_95_X7 : z_LU "GraphNames$Walk" 95 "GraphNames$Tree" "GraphNames$Walk" ⟨"GraphNames$Walk", "skips", "(III)Z"⟩ mX7_skips := ⟨(lw_good_at w_840 rfl), (lw_good_at w_842 rfl), (lw_good_at w_862 rfl), (lw_good_at w_863 rfl), Or.inr (lw_nest_at w_841 rfl), by decide, by decide, rfl⟩
theorem lk_X8_99 : z_LV "GraphNames$Walk" 99 "GraphNames$Cells" mX0_take := ⟨(lw_good_at w_865 rfl), (lw_good_at w_866 rfl), (lw_good_at w_867 rfl)⟩
theorem lk_X8_102 : z_LV "GraphNames$Walk" 102 "GraphNames$Cells" mX0_putAhead := ⟨(lw_good_at w_869 rfl), (lw_good_at w_759 rfl), (lw_good_at w_760 rfl)⟩
theorem lk_X8_106 : z_LV "GraphNames$Walk" 106 "GraphNames$Cells" mX0_refine := ⟨(lw_good_at w_870 rfl), (lw_good_at w_721 rfl), (lw_good_at w_722 rfl)⟩
theorem lk_X8_109_X6 : z_LU "GraphNames$Walk" 109 "GraphNames$Search" "GraphNames$Walk" ⟨"GraphNames$Walk", "cuts", "(I)Z"⟩ mX6_cuts := ⟨(lw_good_at w_871 rfl), (lw_good_at w_873 rfl), (lw_good_at w_874 rfl), (lw_good_at w_875 rfl), Or.inr (lw_nest_at w_872 rfl), by decide, by decide, rfl⟩
theorem lk_X8_109_X7 : z_LU "GraphNames$Walk" 109 "GraphNames$Tree" "GraphNames$Walk" ⟨"GraphNames$Walk", "cuts", "(I)Z"⟩ mX7_cuts := ⟨(lw_good_at w_871 rfl), (lw_good_at w_873 rfl), (lw_good_at w_877 rfl), (lw_good_at w_878 rfl), Or.inr (lw_nest_at w_872 rfl), by decide, by decide, rfl⟩
theorem lk_X9_29 : z_LI "GraphNames" 29 mX5_init := ⟨(lw_good_at w_152 rfl), by decide, rfl, Or.inr ⟨"GraphNames", (lw_nest_at w_151 rfl)⟩⟩
theorem lk_X9_36 : z_LI "GraphNames" 36 mX4_init := ⟨(lw_good_at w_232 rfl), by decide, rfl, Or.inl (lw_good_at w_231 rfl)⟩
theorem lk_X9_50 : z_LI "GraphNames" 50 mX0_init := ⟨(lw_good_at w_254 rfl), by decide, rfl, Or.inr ⟨"GraphNames", (lw_nest_at w_253 rfl)⟩⟩
theorem lk_X9_60 : z_LI "GraphNames" 60 mX3_init := ⟨(lw_good_at w_288 rfl), by decide, rfl, Or.inr ⟨"GraphNames", (lw_nest_at w_287 rfl)⟩⟩
theorem lk_X9_65 : z_LI "GraphNames" 65 mX1_init := ⟨(lw_good_at w_158 rfl), by decide, rfl, Or.inr ⟨"GraphNames", (lw_nest_at w_321 rfl)⟩⟩
theorem lk_X9_70 : z_LI "GraphNames" 70 mX6_init := ⟨(lw_good_at w_324 rfl), by decide, rfl, Or.inr ⟨"GraphNames", (lw_nest_at w_323 rfl)⟩⟩
theorem lk_X9_85 : z_LI "GraphNames" 85 mX7_init := ⟨(lw_good_at w_440 rfl), by decide, rfl, Or.inr ⟨"GraphNames", (lw_nest_at w_439 rfl)⟩⟩
theorem lk_X9_86 : z_LI "GraphNames" 86 mX2_init := ⟨(lw_good_at w_337 rfl), by decide, rfl, Or.inr ⟨"GraphNames", (lw_nest_at w_461 rfl)⟩⟩
theorem lk_X9_90 : z_LV "GraphNames" 90 "GraphNames$Reader" mX5_put := ⟨(lw_good_at w_509 rfl), (lw_good_at w_510 rfl), (lw_good_at w_511 rfl)⟩
theorem lk_X9_94 : z_LV "GraphNames" 94 "GraphNames" mX9_at := ⟨(lw_good_at w_517 rfl), (lw_good_at w_519 rfl), (lw_good_at w_0 rfl)⟩
theorem lk_X9_98 : z_LV "GraphNames" 98 "GraphNames" mX9_refused := ⟨(lw_good_at w_521 rfl), (lw_good_at w_523 rfl), (lw_good_at w_1 rfl)⟩
theorem lk_X9_102 : z_LV "GraphNames" 102 "GraphNames$Reader" mX5_read := ⟨(lw_good_at w_525 rfl), (lw_good_at w_526 rfl), (lw_good_at w_527 rfl)⟩
theorem lk_X9_108 : z_LV "GraphNames" 108 "GraphNames$Past" mX4_keep := ⟨(lw_good_at w_649 rfl), (lw_good_at w_650 rfl), (lw_good_at w_651 rfl)⟩
theorem lk_X9_115 : z_LV "GraphNames" 115 "GraphNames$Graph" mX1_take := ⟨(lw_good_at w_663 rfl), (lw_good_at w_654 rfl), (lw_good_at w_655 rfl)⟩
theorem lk_X9_122 : z_LV "GraphNames" 122 "GraphNames" mX9_answered := ⟨(lw_good_at w_664 rfl), (lw_good_at w_666 rfl), (lw_good_at w_14 rfl)⟩
theorem lk_X9_128 : z_LV "GraphNames" 128 "GraphNames$Graph" mX1_links := ⟨(lw_good_at w_681 rfl), (lw_good_at w_682 rfl), (lw_good_at w_683 rfl)⟩
theorem lk_X9_132 : z_LV "GraphNames" 132 "GraphNames$Cells" mX0_byColours := ⟨(lw_good_at w_691 rfl), (lw_good_at w_692 rfl), (lw_good_at w_693 rfl)⟩
theorem lk_X9_136 : z_LV "GraphNames" 136 "GraphNames$Graph" mX1_mostLinks := ⟨(lw_good_at w_695 rfl), (lw_good_at w_696 rfl), (lw_good_at w_697 rfl)⟩
theorem lk_X9_139 : z_LV "GraphNames" 139 "GraphNames$Graph" mX1_has := ⟨(lw_good_at w_706 rfl), (lw_good_at w_627 rfl), (lw_good_at w_628 rfl)⟩
theorem lk_X9_154 : z_LS "GraphNames" 154 mJ6_bitCount_0f7a4 := ⟨(lw_good_at w_686 rfl), Or.inl (lw_good_at w_715 rfl)⟩
theorem lk_X9_159 : z_LV "GraphNames" 159 "GraphNames$Cells" mX0_refine := ⟨(lw_good_at w_720 rfl), (lw_good_at w_721 rfl), (lw_good_at w_722 rfl)⟩
theorem lk_X9_165 : z_LV "GraphNames" 165 "GraphNames$Cells" mX0_target := ⟨(lw_good_at w_739 rfl), (lw_good_at w_740 rfl), (lw_good_at w_741 rfl)⟩
theorem lk_X9_168 : z_LV "GraphNames" 168 "GraphNames$Cells" mX0_begin := ⟨(lw_good_at w_747 rfl), (lw_good_at w_748 rfl), (lw_good_at w_749 rfl)⟩
theorem lk_X9_174 : z_LS "GraphNames" 174 mX9_in := ⟨(lw_good_at w_631 rfl), Or.inl (lw_good_at w_757 rfl)⟩
theorem lk_X9_178 : z_LV "GraphNames" 178 "GraphNames$Cells" mX0_putAhead := ⟨(lw_good_at w_758 rfl), (lw_good_at w_759 rfl), (lw_good_at w_760 rfl)⟩
theorem lk_X9_181 : z_LV "GraphNames" 181 "GraphNames$Cells" mX0_mark := ⟨(lw_good_at w_763 rfl), (lw_good_at w_764 rfl), (lw_good_at w_765 rfl)⟩
theorem lk_X9_184_X7 : z_LU "GraphNames" 184 "GraphNames$Tree" "GraphNames$Walk" ⟨"GraphNames$Tree", "look", "(LGraphNames$Graph;)V"⟩ mX8_look := ⟨(lw_good_at w_771 rfl), (lw_good_at w_772 rfl), (lw_good_at w_774 rfl), (lw_good_at w_775 rfl), Or.inl rfl, by decide, by decide, rfl⟩
theorem lk_X9_206 : z_LV "GraphNames" 206 "GraphNames" mX9_searchOf := ⟨(lw_good_at w_884 rfl), (lw_good_at w_886 rfl), (lw_good_at w_21 rfl)⟩
theorem lk_X9_234 : z_LV "GraphNames" 234 "GraphNames$Leaf" mX2_compareCodes := ⟨(lw_good_at w_903 rfl), (lw_good_at w_826 rfl), (lw_good_at w_827 rfl)⟩
theorem lk_X9_241 : z_LS "GraphNames" 241 mX9_sentTo := ⟨(lw_good_at w_856 rfl), Or.inl (lw_good_at w_908 rfl)⟩
theorem lk_X9_245 : z_LV "GraphNames" 245 "GraphNames$Pairing" mX3_match := ⟨(lw_good_at w_913 rfl), (lw_good_at w_914 rfl), (lw_good_at w_915 rfl)⟩
theorem lk_X9_252 : z_LV "GraphNames" 252 "GraphNames$Pairing" mX3_orbits := ⟨(lw_good_at w_936 rfl), (lw_good_at w_937 rfl), (lw_good_at w_938 rfl)⟩
theorem lk_X9_255 : z_LV "GraphNames" 255 "GraphNames$Pairing" mX3_unmoved := ⟨(lw_good_at w_940 rfl), (lw_good_at w_941 rfl), (lw_good_at w_942 rfl)⟩
theorem lk_X9_261 : z_LV "GraphNames" 261 "GraphNames$Graph" mX1_hasAll := ⟨(lw_good_at w_952 rfl), (lw_good_at w_953 rfl), (lw_good_at w_954 rfl)⟩
theorem lk_X9_267 : z_LV "GraphNames" 267 "GraphNames$Pairing" mX3_leastChanges := ⟨(lw_good_at w_968 rfl), (lw_good_at w_969 rfl), (lw_good_at w_970 rfl)⟩
theorem lk_X9_271 : z_LV "GraphNames" 271 "GraphNames" mX9_toldApart := ⟨(lw_good_at w_980 rfl), (lw_good_at w_982 rfl), (lw_good_at w_27 rfl)⟩
theorem lk_X9_274 : z_LV "GraphNames" 274 "GraphNames" mX9_nameCards := ⟨(lw_good_at w_993 rfl), (lw_good_at w_995 rfl), (lw_good_at w_28 rfl)⟩
theorem lk_X9_277 : z_LV "GraphNames" 277 "GraphNames" mX9_unlikeCards := ⟨(lw_good_at w_1006 rfl), (lw_good_at w_1008 rfl), (lw_good_at w_29 rfl)⟩
theorem lk_X9_280 : z_LV "GraphNames" 280 "GraphNames" mX9_cardsLike := ⟨(lw_good_at w_1010 rfl), (lw_good_at w_1012 rfl), (lw_good_at w_30 rfl)⟩
theorem lk_X9_283 : z_LV "GraphNames" 283 "GraphNames$Graph" mX1_turnKinds := ⟨(lw_good_at w_1018 rfl), (lw_good_at w_1019 rfl), (lw_good_at w_1020 rfl)⟩
theorem lk_X9_286 : z_LV "GraphNames" 286 "GraphNames" mX9_cellsWith := ⟨(lw_good_at w_1026 rfl), (lw_good_at w_1028 rfl), (lw_good_at w_31 rfl)⟩
theorem lk_X9_290 : z_LV "GraphNames" 290 "GraphNames" mX9_fewestApart := ⟨(lw_good_at w_1035 rfl), (lw_good_at w_1037 rfl), (lw_good_at w_32 rfl)⟩
theorem lk_X9_294 : z_LV "GraphNames" 294 "GraphNames$Graph" mX1_join := ⟨(lw_good_at w_1043 rfl), (lw_good_at w_606 rfl), (lw_good_at w_607 rfl)⟩
theorem lk_X9_298 : z_LV "GraphNames" 298 "GraphNames$Graph" mX1_exchange := ⟨(lw_good_at w_1052 rfl), (lw_good_at w_1002 rfl), (lw_good_at w_1003 rfl)⟩
theorem lk_X9_303 : z_LV "GraphNames" 303 "GraphNames$Graph" mX1_mix := ⟨(lw_good_at w_1058 rfl), (lw_good_at w_1059 rfl), (lw_good_at w_1060 rfl)⟩
theorem lk_X9_306 : z_LV "GraphNames" 306 "GraphNames$Graph" mX1_lose := ⟨(lw_good_at w_997 rfl), (lw_good_at w_998 rfl), (lw_good_at w_999 rfl)⟩
theorem lk_X9_309 : z_LV "GraphNames" 309 "GraphNames$Graph" mX1_gain := ⟨(lw_good_at w_1080 rfl), (lw_good_at w_1081 rfl), (lw_good_at w_1082 rfl)⟩
theorem lk_X9_313 : z_LV "GraphNames" 313 "GraphNames$Past" mX4_bringBack := ⟨(lw_good_at w_1089 rfl), (lw_good_at w_1090 rfl), (lw_good_at w_1091 rfl)⟩
theorem lk_X9_320_X6 : z_LU "GraphNames" 320 "GraphNames$Search" "GraphNames$Walk" ⟨"GraphNames$Search", "look", "(LGraphNames$Graph;)V"⟩ mX8_look := ⟨(lw_good_at w_888 rfl), (lw_good_at w_889 rfl), (lw_good_at w_890 rfl), (lw_good_at w_775 rfl), Or.inl rfl, by decide, by decide, rfl⟩
theorem lk_X9_321 : z_LV "GraphNames" 321 "GraphNames$Cells" mX0_alike := ⟨(lw_good_at w_984 rfl), (lw_good_at w_985 rfl), (lw_good_at w_986 rfl)⟩
theorem lk_X9_325 : z_LV "GraphNames" 325 "GraphNames$Cells" mX0_divide := ⟨(lw_good_at w_988 rfl), (lw_good_at w_725 rfl), (lw_good_at w_726 rfl)⟩
theorem lk_X9_329 : z_LV "GraphNames" 329 "GraphNames$Leaf" mX2_take := ⟨(lw_good_at w_1005 rfl), (lw_good_at w_813 rfl), (lw_good_at w_814 rfl)⟩
theorem lk_X9_332 : z_LV "GraphNames" 332 "GraphNames$Cells" mX0_take := ⟨(lw_good_at w_1030 rfl), (lw_good_at w_866 rfl), (lw_good_at w_867 rfl)⟩
theorem lk_X10_123 : z_LV "GraphNamesModel" 123 "GraphNamesModel" mX10_seen := ⟨(lw_good_at w_1424 rfl), (lw_good_at w_1426 rfl), (lw_good_at w_38 rfl)⟩
theorem lk_X10_133 : z_LS "GraphNamesModel" 133 mX10_isLetter := ⟨(lw_good_at w_1429 rfl), Or.inl (lw_good_at w_1428 rfl)⟩
theorem lk_X10_149 : z_LV "GraphNamesModel" 149 "GraphNamesModel" mX10_token := ⟨(lw_good_at w_1420 rfl), (lw_good_at w_1422 rfl), (lw_good_at w_37 rfl)⟩
theorem lk_X10_152 : z_LV "GraphNamesModel" 152 "GraphNamesModel" mX10_fails := ⟨(lw_good_at w_1438 rfl), (lw_good_at w_1440 rfl), (lw_good_at w_40 rfl)⟩
theorem lk_X10_156 : z_LS "GraphNamesModel" 156 mX10_in := ⟨(lw_good_at w_1410 rfl), Or.inl (lw_good_at w_1409 rfl)⟩
theorem lk_X10_160 : z_LV "GraphNamesModel" 160 "GraphNamesModel" mX10_hold := ⟨(lw_good_at w_1450 rfl), (lw_good_at w_1452 rfl), (lw_good_at w_43 rfl)⟩
theorem lk_X10_164 : z_LV "GraphNamesModel" 164 "GraphNamesModel" mX10_goesOn := ⟨(lw_good_at w_1442 rfl), (lw_good_at w_1444 rfl), (lw_good_at w_41 rfl)⟩
theorem lk_X10_167 : z_LV "GraphNamesModel" 167 "GraphNamesModel" mX10_readVertex := ⟨(lw_good_at w_1462 rfl), (lw_good_at w_1464 rfl), (lw_good_at w_46 rfl)⟩
theorem lk_X10_171 : z_LV "GraphNamesModel" 171 "GraphNamesModel" mX10_isRead := ⟨(lw_good_at w_1477 rfl), (lw_good_at w_1479 rfl), (lw_good_at w_49 rfl)⟩
theorem lk_X10_175 : z_LV "GraphNamesModel" 175 "GraphNamesModel" mX10_linksRead := ⟨(lw_good_at w_1481 rfl), (lw_good_at w_1483 rfl), (lw_good_at w_50 rfl)⟩
theorem lk_X10_182 : z_LS "GraphNamesModel" 182 mX10_has := ⟨(lw_good_at w_1467 rfl), Or.inl (lw_good_at w_1466 rfl)⟩
theorem lk_X10_185 : z_LV "GraphNamesModel" 185 "GraphNamesModel" mX10_takes := ⟨(lw_good_at w_1446 rfl), (lw_good_at w_1448 rfl), (lw_good_at w_42 rfl)⟩
theorem lk_X10_188 : z_LV "GraphNamesModel" 188 "GraphNamesModel" mX10_readLinked := ⟨(lw_good_at w_1473 rfl), (lw_good_at w_1475 rfl), (lw_good_at w_48 rfl)⟩
theorem lk_X10_191 : z_LV "GraphNamesModel" 191 "GraphNamesModel" mX10_isDigit := ⟨(lw_good_at w_1485 rfl), (lw_good_at w_1487 rfl), (lw_good_at w_51 rfl)⟩
theorem lk_X10_195 : z_LS "GraphNamesModel" 195 mX10_spelled := ⟨(lw_good_at w_1432 rfl), Or.inl (lw_good_at w_1431 rfl)⟩
theorem lk_X10_199 : z_LV "GraphNamesModel" 199 "GraphNamesModel" mX10_isWord := ⟨(lw_good_at w_1434 rfl), (lw_good_at w_1436 rfl), (lw_good_at w_39 rfl)⟩
theorem lk_X10_202 : z_LV "GraphNamesModel" 202 "GraphNamesModel" mX10_paintLine := ⟨(lw_good_at w_1458 rfl), (lw_good_at w_1460 rfl), (lw_good_at w_45 rfl)⟩
theorem lk_X10_205 : z_LV "GraphNamesModel" 205 "GraphNamesModel" mX10_linkLine := ⟨(lw_good_at w_1469 rfl), (lw_good_at w_1471 rfl), (lw_good_at w_47 rfl)⟩
theorem lk_X10_208 : z_LV "GraphNamesModel" 208 "GraphNamesModel" mX10_pathLine := ⟨(lw_good_at w_1489 rfl), (lw_good_at w_1491 rfl), (lw_good_at w_52 rfl)⟩
theorem lk_X10_212 : z_LV "GraphNamesModel" 212 "GraphNamesModel" mX10_line := ⟨(lw_good_at w_1454 rfl), (lw_good_at w_1456 rfl), (lw_good_at w_44 rfl)⟩
theorem lk_X10_215 : z_LV "GraphNamesModel" 215 "GraphNamesModel" mX10_begins := ⟨(lw_good_at w_1402 rfl), (lw_good_at w_1404 rfl), (lw_good_at w_34 rfl)⟩
theorem lk_X10_218 : z_LS "GraphNamesModel" 218 mX10_isGraph := ⟨(lw_good_at w_1407 rfl), Or.inl (lw_good_at w_1406 rfl)⟩
theorem lk_X10_221 : z_LV "GraphNamesModel" 221 "GraphNamesModel" mX10_refuse := ⟨(lw_good_at w_1412 rfl), (lw_good_at w_1414 rfl), (lw_good_at w_35 rfl)⟩
theorem lk_X10_225 : z_LV "GraphNamesModel" 225 "GraphNamesModel" mX10_reads := ⟨(lw_good_at w_1416 rfl), (lw_good_at w_1418 rfl), (lw_good_at w_36 rfl)⟩
theorem lk_X10_228 : z_LV "GraphNamesModel" 228 "GraphNamesModel" mX10_keeps := ⟨(lw_good_at w_1493 rfl), (lw_good_at w_1495 rfl), (lw_good_at w_53 rfl)⟩
theorem lk_X10_231 : z_LV "GraphNamesModel" 231 "GraphNamesModel" mX10_manyOf := ⟨(lw_good_at w_1501 rfl), (lw_good_at w_1503 rfl), (lw_good_at w_54 rfl)⟩
theorem lk_X10_234 : z_LV "GraphNamesModel" 234 "GraphNamesModel" mX10_kindOf := ⟨(lw_good_at w_1513 rfl), (lw_good_at w_1515 rfl), (lw_good_at w_57 rfl)⟩
theorem lk_X10_238 : z_LV "GraphNamesModel" 238 "GraphNamesModel" mX10_rowOf := ⟨(lw_good_at w_1509 rfl), (lw_good_at w_1511 rfl), (lw_good_at w_56 rfl)⟩
theorem lk_X10_241 : z_LS "GraphNamesModel" 241 mX10_ones := ⟨(lw_good_at w_1518 rfl), Or.inl (lw_good_at w_1517 rfl)⟩
theorem lk_X10_244 : z_LV "GraphNamesModel" 244 "GraphNamesModel" mX10_colourOf := ⟨(lw_good_at w_1524 rfl), (lw_good_at w_1526 rfl), (lw_good_at w_59 rfl)⟩
theorem lk_X10_247 : z_LV "GraphNamesModel" 247 "GraphNamesModel" mX10_linksOf := ⟨(lw_good_at w_1505 rfl), (lw_good_at w_1507 rfl), (lw_good_at w_55 rfl)⟩
theorem lk_X10_250 : z_LV "GraphNamesModel" 250 "GraphNamesModel" mX10_coloursOf := ⟨(lw_good_at w_1520 rfl), (lw_good_at w_1522 rfl), (lw_good_at w_58 rfl)⟩
theorem lk_X10_253 : z_LV "GraphNamesModel" 253 "GraphNamesModel" mX10_isVertex := ⟨(lw_good_at w_1532 rfl), (lw_good_at w_1534 rfl), (lw_good_at w_60 rfl)⟩
theorem lk_X10_259 : z_LV "GraphNamesModel" 259 "GraphNamesModel" mX10_lays := ⟨(lw_good_at w_1552 rfl), (lw_good_at w_1554 rfl), (lw_good_at w_61 rfl)⟩
theorem lk_X10_262 : z_LS "GraphNamesModel" 262 mX10_compares := ⟨(lw_good_at w_1577 rfl), Or.inl (lw_good_at w_1576 rfl)⟩
theorem lk_X10_266 : z_LV "GraphNamesModel" 266 "GraphNamesModel" mX10_laysSigns := ⟨(lw_good_at w_1568 rfl), (lw_good_at w_1570 rfl), (lw_good_at w_65 rfl)⟩
theorem lk_X10_269 : z_LV "GraphNamesModel" 269 "GraphNamesModel" mX10_rankOf := ⟨(lw_good_at w_1572 rfl), (lw_good_at w_1574 rfl), (lw_good_at w_66 rfl)⟩
theorem lk_X10_275 : z_LV "GraphNamesModel" 275 "GraphNamesModel" mX10_goesRound := ⟨(lw_good_at w_1564 rfl), (lw_good_at w_1566 rfl), (lw_good_at w_64 rfl)⟩
theorem lk_X10_278 : z_LV "GraphNamesModel" 278 "GraphNamesModel" mX10_sizeOf := ⟨(lw_good_at w_1583 rfl), (lw_good_at w_1585 rfl), (lw_good_at w_68 rfl)⟩
theorem lk_X10_281 : z_LV "GraphNamesModel" 281 "GraphNamesModel" mX10_laysColours := ⟨(lw_good_at w_1556 rfl), (lw_good_at w_1558 rfl), (lw_good_at w_62 rfl)⟩
theorem lk_X10_284 : z_LV "GraphNamesModel" 284 "GraphNamesModel" mX10_refines := ⟨(lw_good_at w_1560 rfl), (lw_good_at w_1562 rfl), (lw_good_at w_63 rfl)⟩
theorem lk_X10_287 : z_LV "GraphNamesModel" 287 "GraphNamesModel" mX10_targetCell := ⟨(lw_good_at w_1579 rfl), (lw_good_at w_1581 rfl), (lw_good_at w_67 rfl)⟩
theorem lk_X10_290 : z_LV "GraphNamesModel" 290 "GraphNamesModel" mX10_setOf := ⟨(lw_good_at w_1587 rfl), (lw_good_at w_1589 rfl), (lw_good_at w_69 rfl)⟩
theorem lk_X10_293 : z_LV "GraphNamesModel" 293 "GraphNamesModel" mX10_starts := ⟨(lw_good_at w_1595 rfl), (lw_good_at w_1597 rfl), (lw_good_at w_70 rfl)⟩
theorem lk_X10_296 : z_LV "GraphNamesModel" 296 "GraphNamesModel" mX10_setsApart := ⟨(lw_good_at w_1603 rfl), (lw_good_at w_1605 rfl), (lw_good_at w_71 rfl)⟩
theorem lk_X10_299 : z_LV "GraphNamesModel" 299 "GraphNamesModel" mX10_markOf := ⟨(lw_good_at w_1607 rfl), (lw_good_at w_1609 rfl), (lw_good_at w_72 rfl)⟩
theorem lk_X10_302 : z_LV "GraphNamesModel" 302 "GraphNamesModel" mX10_isSet := ⟨(lw_good_at w_1615 rfl), (lw_good_at w_1617 rfl), (lw_good_at w_73 rfl)⟩
theorem lk_X10_305 : z_LV "GraphNamesModel" 305 "GraphNamesModel" mX10_cellsBy := ⟨(lw_good_at w_1619 rfl), (lw_good_at w_1621 rfl), (lw_good_at w_74 rfl)⟩
theorem lk_X10_308 : z_LV "GraphNamesModel" 308 "GraphNamesModel" mX10_vertexIn := ⟨(lw_good_at w_1643 rfl), (lw_good_at w_1645 rfl), (lw_good_at w_78 rfl)⟩
theorem lk_X10_314 : z_LV "GraphNamesModel" 314 "GraphNamesModel" mX10_codeLong := ⟨(lw_good_at w_1651 rfl), (lw_good_at w_1653 rfl), (lw_good_at w_80 rfl)⟩
theorem lk_X10_326 : z_LV "GraphNamesModel" 326 "GraphNamesModel" mX10_laysCode := ⟨(lw_good_at w_1639 rfl), (lw_good_at w_1641 rfl), (lw_good_at w_77 rfl)⟩
theorem lk_X10_329 : z_LV "GraphNamesModel" 329 "GraphNamesModel" mX10_comparesBest := ⟨(lw_good_at w_1647 rfl), (lw_good_at w_1649 rfl), (lw_good_at w_79 rfl)⟩
theorem lk_X10_332 : z_LV "GraphNamesModel" 332 "GraphNamesModel" mX10_isBest := ⟨(lw_good_at w_1655 rfl), (lw_good_at w_1657 rfl), (lw_good_at w_81 rfl)⟩
theorem lk_X10_338 : z_LV "GraphNamesModel" 338 "GraphNamesModel" mX10_saves := ⟨(lw_good_at w_1659 rfl), (lw_good_at w_1661 rfl), (lw_good_at w_82 rfl)⟩
theorem lk_X10_341 : z_LV "GraphNamesModel" 341 "GraphNamesModel" mX10_walks := ⟨(lw_good_at w_1635 rfl), (lw_good_at w_1637 rfl), (lw_good_at w_76 rfl)⟩
theorem lk_X10_344 : z_LV "GraphNamesModel" 344 "GraphNamesModel" mX10_comesBack := ⟨(lw_good_at w_1663 rfl), (lw_good_at w_1665 rfl), (lw_good_at w_83 rfl)⟩
theorem lk_X10_348 : z_LV "GraphNamesModel" 348 "GraphNamesModel" mX10_walksAll := ⟨(lw_good_at w_1631 rfl), (lw_good_at w_1633 rfl), (lw_good_at w_75 rfl)⟩
theorem lk_X10_351 : z_LV "GraphNamesModel" 351 "GraphNamesModel" mX10_keepsName := ⟨(lw_good_at w_1679 rfl), (lw_good_at w_1681 rfl), (lw_good_at w_84 rfl)⟩
theorem lk_X10_360 : z_LV "GraphNamesModel" 360 "GraphNamesModel" mX10_isFirst := ⟨(lw_good_at w_1699 rfl), (lw_good_at w_1701 rfl), (lw_good_at w_88 rfl)⟩
theorem lk_X10_366 : z_LV "GraphNamesModel" 366 "GraphNamesModel" mX10_isLikeFirst := ⟨(lw_good_at w_1703 rfl), (lw_good_at w_1705 rfl), (lw_good_at w_89 rfl)⟩
theorem lk_X10_369 : z_LV "GraphNamesModel" 369 "GraphNamesModel" mX10_generates := ⟨(lw_good_at w_1707 rfl), (lw_good_at w_1709 rfl), (lw_good_at w_90 rfl)⟩
theorem lk_X10_373 : z_LS "GraphNamesModel" 373 mX10_sentBy := ⟨(lw_good_at w_1720 rfl), Or.inl (lw_good_at w_1719 rfl)⟩
theorem lk_X10_376 : z_LV "GraphNamesModel" 376 "GraphNamesModel" mX10_leavesPath := ⟨(lw_good_at w_1715 rfl), (lw_good_at w_1717 rfl), (lw_good_at w_92 rfl)⟩
theorem lk_X10_379 : z_LV "GraphNamesModel" 379 "GraphNamesModel" mX10_sentSet := ⟨(lw_good_at w_1722 rfl), (lw_good_at w_1724 rfl), (lw_good_at w_93 rfl)⟩
theorem lk_X10_382 : z_LV "GraphNamesModel" 382 "GraphNamesModel" mX10_comesToLeaf := ⟨(lw_good_at w_1695 rfl), (lw_good_at w_1697 rfl), (lw_good_at w_87 rfl)⟩
theorem lk_X10_385 : z_LV "GraphNamesModel" 385 "GraphNamesModel" mX10_comesTo := ⟨(lw_good_at w_1711 rfl), (lw_good_at w_1713 rfl), (lw_good_at w_91 rfl)⟩
theorem lk_X10_391 : z_LV "GraphNamesModel" 391 "GraphNamesModel" mX10_isCut := ⟨(lw_good_at w_1726 rfl), (lw_good_at w_1728 rfl), (lw_good_at w_94 rfl)⟩
theorem lk_X10_397 : z_LV "GraphNamesModel" 397 "GraphNamesModel" mX10_searches := ⟨(lw_good_at w_1691 rfl), (lw_good_at w_1693 rfl), (lw_good_at w_86 rfl)⟩
theorem lk_X10_400 : z_LV "GraphNamesModel" 400 "GraphNamesModel" mX10_searchesAll := ⟨(lw_good_at w_1687 rfl), (lw_good_at w_1689 rfl), (lw_good_at w_85 rfl)⟩
theorem lk_X10_415 : z_LV "GraphNamesModel" 415 "GraphNamesModel" mX10_fits := ⟨(lw_good_at w_1754 rfl), (lw_good_at w_1756 rfl), (lw_good_at w_99 rfl)⟩
theorem lk_X10_418 : z_LV "GraphNamesModel" 418 "GraphNamesModel" mX10_mapsFrom := ⟨(lw_good_at w_1750 rfl), (lw_good_at w_1752 rfl), (lw_good_at w_98 rfl)⟩
theorem lk_X10_421 : z_LV "GraphNamesModel" 421 "GraphNamesModel" mX10_laysOther := ⟨(lw_good_at w_1742 rfl), (lw_good_at w_1744 rfl), (lw_good_at w_96 rfl)⟩
theorem lk_X10_424 : z_LV "GraphNamesModel" 424 "GraphNamesModel" mX10_mapsAll := ⟨(lw_good_at w_1746 rfl), (lw_good_at w_1748 rfl), (lw_good_at w_97 rfl)⟩
theorem lk_X10_427 : z_LV "GraphNamesModel" 427 "GraphNamesModel" mX10_laysMaps := ⟨(lw_good_at w_1738 rfl), (lw_good_at w_1740 rfl), (lw_good_at w_95 rfl)⟩
theorem lk_X10_433 : z_LV "GraphNamesModel" 433 "GraphNamesModel" mX10_changesFrom := ⟨(lw_good_at w_1778 rfl), (lw_good_at w_1780 rfl), (lw_good_at w_100 rfl)⟩
theorem lk_X10_436 : z_LV "GraphNamesModel" 436 "GraphNamesModel" mX10_areColoursAlike := ⟨(lw_good_at w_1790 rfl), (lw_good_at w_1792 rfl), (lw_good_at w_102 rfl)⟩
theorem lk_X10_439 : z_LV "GraphNamesModel" 439 "GraphNamesModel" mX10_laysOtherSigns := ⟨(lw_good_at w_1794 rfl), (lw_good_at w_1796 rfl), (lw_good_at w_103 rfl)⟩
theorem lk_X10_442 : z_LV "GraphNamesModel" 442 "GraphNamesModel" mX10_areSignsAlike := ⟨(lw_good_at w_1798 rfl), (lw_good_at w_1800 rfl), (lw_good_at w_104 rfl)⟩
theorem lk_X10_445 : z_LV "GraphNamesModel" 445 "GraphNamesModel" mX10_laysOtherCells := ⟨(lw_good_at w_1802 rfl), (lw_good_at w_1804 rfl), (lw_good_at w_105 rfl)⟩
theorem lk_X10_448 : z_LV "GraphNamesModel" 448 "GraphNamesModel" mX10_toldBy := ⟨(lw_good_at w_1786 rfl), (lw_good_at w_1788 rfl), (lw_good_at w_101 rfl)⟩
theorem lk_X10_451 : z_LV "GraphNamesModel" 451 "GraphNamesModel" mX10_laysCard := ⟨(lw_good_at w_1810 rfl), (lw_good_at w_1812 rfl), (lw_good_at w_106 rfl)⟩
theorem lk_X10_454 : z_LV "GraphNamesModel" 454 "GraphNamesModel" mX10_laysTurned := ⟨(lw_good_at w_1818 rfl), (lw_good_at w_1820 rfl), (lw_good_at w_107 rfl)⟩
theorem lk_X10_460 : z_LV "GraphNamesModel" 460 "GraphNamesModel" mX10_putsKind := ⟨(lw_good_at w_1826 rfl), (lw_good_at w_1828 rfl), (lw_good_at w_108 rfl)⟩
theorem lk_X10_464 : z_LV "GraphNamesModel" 464 "GraphNamesModel" mX10_swaps := ⟨(lw_good_at w_1838 rfl), (lw_good_at w_1840 rfl), (lw_good_at w_109 rfl)⟩
theorem lk_X10_476 : z_LV "GraphNamesModel" 476 "GraphNamesModel" mX10_draw := ⟨(lw_good_at w_1847 rfl), (lw_good_at w_1849 rfl), (lw_good_at w_110 rfl)⟩
theorem lk_X10_479 : z_LV "GraphNamesModel" 479 "GraphNamesModel" mX10_becomesLaid := ⟨(lw_good_at w_1861 rfl), (lw_good_at w_1863 rfl), (lw_good_at w_111 rfl)⟩
theorem lk_J0_335 : z_LV "java/lang/String" 335 "java/lang/String" mJ0_coder_7d493 := ⟨(lw_good_at w_549 rfl), (lw_good_at w_550 rfl), (lw_good_at w_551 rfl)⟩
theorem lk_J0_492 : z_LV "java/lang/String" 492 "java/lang/String" mJ0_isLatin1_aae02 := ⟨(lw_good_at w_559 rfl), (lw_good_at w_560 rfl), (lw_good_at w_561 rfl)⟩
theorem lk_J0_495 : z_LS "java/lang/String" 495 mJ1_charAt_3b067 := ⟨(lw_good_at w_564 rfl), Or.inl (lw_good_at w_563 rfl)⟩
theorem lk_J0_498 : z_LS "java/lang/String" 498 mJ2_charAt_3b067 := ⟨(lw_good_at w_575 rfl), Or.inl (lw_good_at w_574 rfl)⟩
theorem lk_J0_1059 : z_LS "java/lang/String" 1059 mJ3_checkIndex_8e157 := ⟨(lw_good_at w_572 rfl), Or.inl (lw_good_at w_571 rfl)⟩
theorem lk_J1_9 : z_LS "java/lang/StringLatin1" 9 mJ0_checkIndex_df160 := ⟨(lw_good_at w_567 rfl), Or.inl (lw_good_at w_566 rfl)⟩
theorem lk_J2_48 : z_LS "java/lang/StringUTF16" 48 mJ2_length_9d52b := ⟨(lw_good_at w_581 rfl), Or.inl (lw_good_at w_580 rfl)⟩
theorem lk_J2_67 : z_LS "java/lang/StringUTF16" 67 mJ2_checkIndex_2214a := ⟨(lw_good_at w_578 rfl), Or.inl (lw_good_at w_577 rfl)⟩
theorem lk_J2_71 : z_LS "java/lang/StringUTF16" 71 mJ2_getChar_3b067 := ⟨(lw_good_at w_585 rfl), Or.inl (lw_good_at w_584 rfl)⟩
theorem lk_J2_414 : z_LS "java/lang/StringUTF16" 414 mJ0_checkIndex_df160 := ⟨(lw_good_at w_567 rfl), Or.inl (lw_good_at w_583 rfl)⟩
theorem lk_L_7 : z_LV "GraphNamesLaw" 7 "GraphNames" mX9_row := ⟨(lw_good_at w_1113 rfl), (lw_good_at w_1114 rfl), (lw_good_at w_1115 rfl)⟩
theorem lk_L_15 : z_LI "GraphNamesLaw" 15 mX9_init := ⟨(lw_good_at w_138 rfl), by decide, rfl, Or.inl (lw_good_at w_137 rfl)⟩
theorem lk_L_18 : z_LI "GraphNamesLaw" 18 mX10_init := ⟨(lw_good_at w_1181 rfl), by decide, rfl, Or.inl (lw_good_at w_1180 rfl)⟩
theorem lk_L_19 : z_LV "GraphNamesLaw" 19 "GraphNames" mX9_feed := ⟨(lw_good_at w_505 rfl), (lw_good_at w_506 rfl), (lw_good_at w_507 rfl)⟩
theorem lk_L_23 : z_LV "GraphNamesLaw" 23 "GraphNamesModel" mX10_feed := ⟨(lw_good_at w_1378 rfl), (lw_good_at w_1379 rfl), (lw_good_at w_1380 rfl)⟩
theorem lk_L_24 : z_LV "GraphNamesLaw" 24 "GraphNames" mX9_text := ⟨(lw_good_at w_513 rfl), (lw_good_at w_514 rfl), (lw_good_at w_515 rfl)⟩
theorem lk_L_27 : z_LV "GraphNamesLaw" 27 "GraphNamesModel" mX10_text := ⟨(lw_good_at w_1398 rfl), (lw_good_at w_1399 rfl), (lw_good_at w_1400 rfl)⟩
theorem lk_L_28 : z_LV "GraphNamesLaw" 28 "GraphNames" mX9_fault := ⟨(lw_good_at w_669 rfl), (lw_good_at w_670 rfl), (lw_good_at w_671 rfl)⟩
theorem lk_L_32 : z_LV "GraphNamesLaw" 32 "GraphNamesModel" mX10_fault := ⟨(lw_good_at w_1390 rfl), (lw_good_at w_1391 rfl), (lw_good_at w_1392 rfl)⟩
theorem lk_L_33 : z_LV "GraphNamesLaw" 33 "GraphNames" mX9_where := ⟨(lw_good_at w_673 rfl), (lw_good_at w_674 rfl), (lw_good_at w_675 rfl)⟩
theorem lk_L_36 : z_LV "GraphNamesLaw" 36 "GraphNamesModel" mX10_where := ⟨(lw_good_at w_1394 rfl), (lw_good_at w_1395 rfl), (lw_good_at w_1396 rfl)⟩
theorem lk_L_37 : z_LV "GraphNamesLaw" 37 "GraphNames" mX9_graph := ⟨(lw_good_at w_677 rfl), (lw_good_at w_678 rfl), (lw_good_at w_679 rfl)⟩
theorem lk_L_40 : z_LV "GraphNamesLaw" 40 "GraphNamesModel" mX10_graph := ⟨(lw_good_at w_1497 rfl), (lw_good_at w_1498 rfl), (lw_good_at w_1499 rfl)⟩
theorem lk_L_41 : z_LV "GraphNamesLaw" 41 "GraphNames" mX9_colour := ⟨(lw_good_at w_702 rfl), (lw_good_at w_703 rfl), (lw_good_at w_704 rfl)⟩
theorem lk_L_44 : z_LV "GraphNamesLaw" 44 "GraphNamesModel" mX10_colour := ⟨(lw_good_at w_1528 rfl), (lw_good_at w_1529 rfl), (lw_good_at w_1530 rfl)⟩
theorem lk_L_45 : z_LV "GraphNamesLaw" 45 "GraphNames" mX9_kind := ⟨(lw_good_at w_707 rfl), (lw_good_at w_708 rfl), (lw_good_at w_709 rfl)⟩
theorem lk_L_49 : z_LV "GraphNamesLaw" 49 "GraphNamesModel" mX10_kind := ⟨(lw_good_at w_1536 rfl), (lw_good_at w_1537 rfl), (lw_good_at w_1538 rfl)⟩
theorem lk_L_50 : z_LV "GraphNamesLaw" 50 "GraphNames" mX9_degree := ⟨(lw_good_at w_711 rfl), (lw_good_at w_712 rfl), (lw_good_at w_713 rfl)⟩
theorem lk_L_53 : z_LV "GraphNamesLaw" 53 "GraphNamesModel" mX10_degree := ⟨(lw_good_at w_1540 rfl), (lw_good_at w_1541 rfl), (lw_good_at w_1542 rfl)⟩
theorem lk_L_54 : z_LV "GraphNamesLaw" 54 "GraphNames" mX9_start := ⟨(lw_good_at w_716 rfl), (lw_good_at w_717 rfl), (lw_good_at w_718 rfl)⟩
theorem lk_L_57 : z_LV "GraphNamesLaw" 57 "GraphNamesModel" mX10_start := ⟨(lw_good_at w_1548 rfl), (lw_good_at w_1549 rfl), (lw_good_at w_1550 rfl)⟩
theorem lk_L_58 : z_LV "GraphNamesLaw" 58 "GraphNames" mX9_cell := ⟨(lw_good_at w_743 rfl), (lw_good_at w_744 rfl), (lw_good_at w_745 rfl)⟩
theorem lk_L_61 : z_LV "GraphNamesLaw" 61 "GraphNamesModel" mX10_cell := ⟨(lw_good_at w_1591 rfl), (lw_good_at w_1592 rfl), (lw_good_at w_1593 rfl)⟩
theorem lk_L_62 : z_LV "GraphNamesLaw" 62 "GraphNames" mX9_apart := ⟨(lw_good_at w_753 rfl), (lw_good_at w_754 rfl), (lw_good_at w_755 rfl)⟩
theorem lk_L_65 : z_LV "GraphNamesLaw" 65 "GraphNamesModel" mX10_apart := ⟨(lw_good_at w_1599 rfl), (lw_good_at w_1600 rfl), (lw_good_at w_1601 rfl)⟩
theorem lk_L_66 : z_LV "GraphNamesLaw" 66 "GraphNames" mX9_tree := ⟨(lw_good_at w_767 rfl), (lw_good_at w_768 rfl), (lw_good_at w_769 rfl)⟩
theorem lk_L_69 : z_LV "GraphNamesLaw" 69 "GraphNamesModel" mX10_tree := ⟨(lw_good_at w_1627 rfl), (lw_good_at w_1628 rfl), (lw_good_at w_1629 rfl)⟩
theorem lk_L_70 : z_LV "GraphNamesLaw" 70 "GraphNames" mX9_search := ⟨(lw_good_at w_880 rfl), (lw_good_at w_881 rfl), (lw_good_at w_882 rfl)⟩
theorem lk_L_73 : z_LV "GraphNamesLaw" 73 "GraphNamesModel" mX10_search := ⟨(lw_good_at w_1683 rfl), (lw_good_at w_1684 rfl), (lw_good_at w_1685 rfl)⟩
theorem lk_L_74 : z_LV "GraphNamesLaw" 74 "GraphNames" mX9_name := ⟨(lw_good_at w_891 rfl), (lw_good_at w_892 rfl), (lw_good_at w_893 rfl)⟩
theorem lk_L_77 : z_LV "GraphNamesLaw" 77 "GraphNamesModel" mX10_name := ⟨(lw_good_at w_1667 rfl), (lw_good_at w_1668 rfl), (lw_good_at w_1669 rfl)⟩
theorem lk_L_78 : z_LV "GraphNamesLaw" 78 "GraphNames" mX9_place := ⟨(lw_good_at w_895 rfl), (lw_good_at w_896 rfl), (lw_good_at w_897 rfl)⟩
theorem lk_L_81 : z_LV "GraphNamesLaw" 81 "GraphNamesModel" mX10_place := ⟨(lw_good_at w_1671 rfl), (lw_good_at w_1672 rfl), (lw_good_at w_1673 rfl)⟩
theorem lk_L_82 : z_LV "GraphNamesLaw" 82 "GraphNames" mX9_less := ⟨(lw_good_at w_899 rfl), (lw_good_at w_900 rfl), (lw_good_at w_901 rfl)⟩
theorem lk_L_85 : z_LV "GraphNamesLaw" 85 "GraphNamesModel" mX10_less := ⟨(lw_good_at w_1675 rfl), (lw_good_at w_1676 rfl), (lw_good_at w_1677 rfl)⟩
theorem lk_L_86 : z_LV "GraphNamesLaw" 86 "GraphNames" mX9_generator := ⟨(lw_good_at w_904 rfl), (lw_good_at w_905 rfl), (lw_good_at w_906 rfl)⟩
theorem lk_L_89 : z_LV "GraphNamesLaw" 89 "GraphNamesModel" mX10_generator := ⟨(lw_good_at w_1730 rfl), (lw_good_at w_1731 rfl), (lw_good_at w_1732 rfl)⟩
theorem lk_L_90 : z_LV "GraphNamesLaw" 90 "GraphNames" mX9_symmetries := ⟨(lw_good_at w_909 rfl), (lw_good_at w_910 rfl), (lw_good_at w_911 rfl)⟩
theorem lk_L_93 : z_LV "GraphNamesLaw" 93 "GraphNamesModel" mX10_symmetries := ⟨(lw_good_at w_1734 rfl), (lw_good_at w_1735 rfl), (lw_good_at w_1736 rfl)⟩
theorem lk_L_94 : z_LV "GraphNamesLaw" 94 "GraphNames" mX9_orbit := ⟨(lw_good_at w_944 rfl), (lw_good_at w_945 rfl), (lw_good_at w_946 rfl)⟩
theorem lk_L_97 : z_LV "GraphNamesLaw" 97 "GraphNamesModel" mX10_orbit := ⟨(lw_good_at w_1758 rfl), (lw_good_at w_1759 rfl), (lw_good_at w_1760 rfl)⟩
theorem lk_L_98 : z_LV "GraphNamesLaw" 98 "GraphNames" mX9_leave := ⟨(lw_good_at w_948 rfl), (lw_good_at w_949 rfl), (lw_good_at w_950 rfl)⟩
theorem lk_L_101 : z_LV "GraphNamesLaw" 101 "GraphNamesModel" mX10_leave := ⟨(lw_good_at w_1762 rfl), (lw_good_at w_1763 rfl), (lw_good_at w_1764 rfl)⟩
theorem lk_L_102 : z_LV "GraphNamesLaw" 102 "GraphNames" mX9_maps := ⟨(lw_good_at w_956 rfl), (lw_good_at w_957 rfl), (lw_good_at w_958 rfl)⟩
theorem lk_L_105 : z_LV "GraphNamesLaw" 105 "GraphNamesModel" mX10_maps := ⟨(lw_good_at w_1766 rfl), (lw_good_at w_1767 rfl), (lw_good_at w_1768 rfl)⟩
theorem lk_L_106 : z_LV "GraphNamesLaw" 106 "GraphNames" mX9_map := ⟨(lw_good_at w_960 rfl), (lw_good_at w_961 rfl), (lw_good_at w_962 rfl)⟩
theorem lk_L_109 : z_LV "GraphNamesLaw" 109 "GraphNamesModel" mX10_map := ⟨(lw_good_at w_1770 rfl), (lw_good_at w_1771 rfl), (lw_good_at w_1772 rfl)⟩
theorem lk_L_110 : z_LV "GraphNamesLaw" 110 "GraphNames" mX9_changes := ⟨(lw_good_at w_964 rfl), (lw_good_at w_965 rfl), (lw_good_at w_966 rfl)⟩
theorem lk_L_113 : z_LV "GraphNamesLaw" 113 "GraphNamesModel" mX10_changes := ⟨(lw_good_at w_1774 rfl), (lw_good_at w_1775 rfl), (lw_good_at w_1776 rfl)⟩
theorem lk_L_114 : z_LV "GraphNamesLaw" 114 "GraphNames" mX9_told := ⟨(lw_good_at w_976 rfl), (lw_good_at w_977 rfl), (lw_good_at w_978 rfl)⟩
theorem lk_L_117 : z_LV "GraphNamesLaw" 117 "GraphNamesModel" mX10_told := ⟨(lw_good_at w_1782 rfl), (lw_good_at w_1783 rfl), (lw_good_at w_1784 rfl)⟩
theorem lk_L_118 : z_LV "GraphNamesLaw" 118 "GraphNames" mX9_cards := ⟨(lw_good_at w_989 rfl), (lw_good_at w_990 rfl), (lw_good_at w_991 rfl)⟩
theorem lk_L_121 : z_LV "GraphNamesLaw" 121 "GraphNamesModel" mX10_cards := ⟨(lw_good_at w_1806 rfl), (lw_good_at w_1807 rfl), (lw_good_at w_1808 rfl)⟩
theorem lk_L_122 : z_LV "GraphNamesLaw" 122 "GraphNames" mX9_turned := ⟨(lw_good_at w_1014 rfl), (lw_good_at w_1015 rfl), (lw_good_at w_1016 rfl)⟩
theorem lk_L_126 : z_LV "GraphNamesLaw" 126 "GraphNamesModel" mX10_turned := ⟨(lw_good_at w_1814 rfl), (lw_good_at w_1815 rfl), (lw_good_at w_1816 rfl)⟩
theorem lk_L_127 : z_LV "GraphNamesLaw" 127 "GraphNames" mX9_base := ⟨(lw_good_at w_1022 rfl), (lw_good_at w_1023 rfl), (lw_good_at w_1024 rfl)⟩
theorem lk_L_130 : z_LV "GraphNamesLaw" 130 "GraphNamesModel" mX10_base := ⟨(lw_good_at w_1611 rfl), (lw_good_at w_1612 rfl), (lw_good_at w_1613 rfl)⟩
theorem lk_L_131 : z_LV "GraphNamesLaw" 131 "GraphNames" mX9_fewest := ⟨(lw_good_at w_1031 rfl), (lw_good_at w_1032 rfl), (lw_good_at w_1033 rfl)⟩
theorem lk_L_134 : z_LV "GraphNamesLaw" 134 "GraphNamesModel" mX10_fewest := ⟨(lw_good_at w_1623 rfl), (lw_good_at w_1624 rfl), (lw_good_at w_1625 rfl)⟩
theorem lk_L_135 : z_LV "GraphNamesLaw" 135 "GraphNames" mX9_link := ⟨(lw_good_at w_1039 rfl), (lw_good_at w_1040 rfl), (lw_good_at w_1041 rfl)⟩
theorem lk_L_139 : z_LV "GraphNamesLaw" 139 "GraphNamesModel" mX10_link := ⟨(lw_good_at w_1822 rfl), (lw_good_at w_1823 rfl), (lw_good_at w_1824 rfl)⟩
theorem lk_L_140 : z_LV "GraphNamesLaw" 140 "GraphNames" mX9_paint := ⟨(lw_good_at w_1044 rfl), (lw_good_at w_1045 rfl), (lw_good_at w_1046 rfl)⟩
theorem lk_L_143 : z_LV "GraphNamesLaw" 143 "GraphNamesModel" mX10_paint := ⟨(lw_good_at w_1830 rfl), (lw_good_at w_1831 rfl), (lw_good_at w_1832 rfl)⟩
theorem lk_L_144 : z_LV "GraphNamesLaw" 144 "GraphNames" mX9_swap := ⟨(lw_good_at w_1048 rfl), (lw_good_at w_1049 rfl), (lw_good_at w_1050 rfl)⟩
theorem lk_L_147 : z_LV "GraphNamesLaw" 147 "GraphNamesModel" mX10_swap := ⟨(lw_good_at w_1834 rfl), (lw_good_at w_1835 rfl), (lw_good_at w_1836 rfl)⟩
theorem lk_L_148 : z_LV "GraphNamesLaw" 148 "GraphNames" mX9_shuffle := ⟨(lw_good_at w_1053 rfl), (lw_good_at w_1054 rfl), (lw_good_at w_1055 rfl)⟩
theorem lk_L_151 : z_LV "GraphNamesLaw" 151 "GraphNamesModel" mX10_shuffle := ⟨(lw_good_at w_1842 rfl), (lw_good_at w_1843 rfl), (lw_good_at w_1844 rfl)⟩
theorem lk_L_152 : z_LV "GraphNamesLaw" 152 "GraphNames" mX9_copy := ⟨(lw_good_at w_1064 rfl), (lw_good_at w_1065 rfl), (lw_good_at w_1066 rfl)⟩
theorem lk_L_155 : z_LV "GraphNamesLaw" 155 "GraphNamesModel" mX10_copy := ⟨(lw_good_at w_1853 rfl), (lw_good_at w_1854 rfl), (lw_good_at w_1855 rfl)⟩
theorem lk_L_156 : z_LV "GraphNamesLaw" 156 "GraphNames" mX9_turn := ⟨(lw_good_at w_1068 rfl), (lw_good_at w_1069 rfl), (lw_good_at w_1070 rfl)⟩
theorem lk_L_159 : z_LV "GraphNamesLaw" 159 "GraphNamesModel" mX10_turn := ⟨(lw_good_at w_1857 rfl), (lw_good_at w_1858 rfl), (lw_good_at w_1859 rfl)⟩
theorem lk_L_160 : z_LV "GraphNamesLaw" 160 "GraphNames" mX9_drop := ⟨(lw_good_at w_1072 rfl), (lw_good_at w_1073 rfl), (lw_good_at w_1074 rfl)⟩
theorem lk_L_163 : z_LV "GraphNamesLaw" 163 "GraphNamesModel" mX10_drop := ⟨(lw_good_at w_1865 rfl), (lw_good_at w_1866 rfl), (lw_good_at w_1867 rfl)⟩
theorem lk_L_164 : z_LV "GraphNamesLaw" 164 "GraphNames" mX9_grow := ⟨(lw_good_at w_1076 rfl), (lw_good_at w_1077 rfl), (lw_good_at w_1078 rfl)⟩
theorem lk_L_167 : z_LV "GraphNamesLaw" 167 "GraphNamesModel" mX10_grow := ⟨(lw_good_at w_1869 rfl), (lw_good_at w_1870 rfl), (lw_good_at w_1871 rfl)⟩
theorem lk_L_168 : z_LV "GraphNamesLaw" 168 "GraphNames" mX9_undo := ⟨(lw_good_at w_1085 rfl), (lw_good_at w_1086 rfl), (lw_good_at w_1087 rfl)⟩
theorem lk_L_171 : z_LV "GraphNamesLaw" 171 "GraphNamesModel" mX10_undo := ⟨(lw_good_at w_1873 rfl), (lw_good_at w_1874 rfl), (lw_good_at w_1875 rfl)⟩
theorem lk_L_172 : z_LV "GraphNamesLaw" 172 "GraphNames" mX9_image := ⟨(lw_good_at w_1093 rfl), (lw_good_at w_1094 rfl), (lw_good_at w_1095 rfl)⟩
theorem lk_L_176 : z_LV "GraphNamesLaw" 176 "GraphNamesModel" mX10_image := ⟨(lw_good_at w_1877 rfl), (lw_good_at w_1878 rfl), (lw_good_at w_1879 rfl)⟩
theorem lk_L_177 : z_LV "GraphNamesLaw" 177 "GraphNames" mX9_again := ⟨(lw_good_at w_1097 rfl), (lw_good_at w_1098 rfl), (lw_good_at w_1099 rfl)⟩
theorem lk_L_180 : z_LV "GraphNamesLaw" 180 "GraphNamesModel" mX10_again := ⟨(lw_good_at w_1881 rfl), (lw_good_at w_1882 rfl), (lw_good_at w_1883 rfl)⟩
theorem lk_L_186 : z_LV "GraphNamesLaw" 186 "GraphNamesModel" mX10_row := ⟨(lw_good_at w_1544 rfl), (lw_good_at w_1545 rfl), (lw_good_at w_1546 rfl)⟩
theorem lk_L_187 : z_LV "GraphNamesLaw" 187 "GraphNamesModel" mX10_thrown := ⟨(lw_good_at w_1374 rfl), (lw_good_at w_1375 rfl), (lw_good_at w_1376 rfl)⟩
theorem lk_L_190 : z_LV "GraphNamesLaw" 190 "GraphNames" mX9_size := ⟨(lw_good_at w_1101 rfl), (lw_good_at w_1102 rfl), (lw_good_at w_1103 rfl)⟩
theorem lk_L_193 : z_LV "GraphNamesLaw" 193 "GraphNamesModel" mX10_size := ⟨(lw_good_at w_1382 rfl), (lw_good_at w_1383 rfl), (lw_good_at w_1384 rfl)⟩
theorem lk_L_194 : z_LV "GraphNamesLaw" 194 "GraphNames" mX9_trouble := ⟨(lw_good_at w_1105 rfl), (lw_good_at w_1106 rfl), (lw_good_at w_1107 rfl)⟩
theorem lk_L_197 : z_LV "GraphNamesLaw" 197 "GraphNamesModel" mX10_trouble := ⟨(lw_good_at w_1386 rfl), (lw_good_at w_1387 rfl), (lw_good_at w_1388 rfl)⟩
theorem inGX0 : ∀ w ∈ wsX00, w ∈ lw_good := fun w h => lw_good_of (inX0 w h) (List.all_eq_true.mp (by decide +kernel : wsX00.all goodWord = true) w h)
theorem inGX1 : ∀ w ∈ wsX10, w ∈ lw_good := fun w h => lw_good_of (inX1 w h) (List.all_eq_true.mp (by decide +kernel : wsX10.all goodWord = true) w h)
theorem inGX2 : ∀ w ∈ wsX20, w ∈ lw_good := fun w h => lw_good_of (inX2 w h) (List.all_eq_true.mp (by decide +kernel : wsX20.all goodWord = true) w h)
theorem inGX3 : ∀ w ∈ wsX30, w ∈ lw_good := fun w h => lw_good_of (inX3 w h) (List.all_eq_true.mp (by decide +kernel : wsX30.all goodWord = true) w h)
theorem inGX4 : ∀ w ∈ wsX40, w ∈ lw_good := fun w h => lw_good_of (inX4 w h) (List.all_eq_true.mp (by decide +kernel : wsX40.all goodWord = true) w h)
theorem inGX5 : ∀ w ∈ wsX50, w ∈ lw_good := fun w h => lw_good_of (inX5 w h) (List.all_eq_true.mp (by decide +kernel : wsX50.all goodWord = true) w h)
theorem inGX6 : ∀ w ∈ wsX60, w ∈ lw_good := fun w h => lw_good_of (inX6 w h) (List.all_eq_true.mp (by decide +kernel : wsX60.all goodWord = true) w h)
theorem inGX7 : ∀ w ∈ wsX70, w ∈ lw_good := fun w h => lw_good_of (inX7 w h) (List.all_eq_true.mp (by decide +kernel : wsX70.all goodWord = true) w h)
theorem inGX9 : ∀ w ∈ wsX90, w ∈ lw_good := fun w h => lw_good_of (inX9 w h) (List.all_eq_true.mp (by decide +kernel : wsX90.all goodWord = true) w h)
theorem inGX10 : ∀ w ∈ wsX100, w ∈ lw_good := fun w h => lw_good_of (inX10 w h) (List.all_eq_true.mp (by decide +kernel : wsX100.all goodWord = true) w h)
theorem fl_X1_9_X1 : z_FLg "GraphNames$Graph" 9 1 0 0 := ⟨"GraphNames$Graph", TX1, 4, tyX1, "GraphNames$Graph", rfl, inGX1, tyX1_ok, nmX1, by decide, (lw_good_at w_163 rfl), Or.inl rfl, rfl, rfl, by decide⟩
theorem fp_X1_9_X1 : z_FL "GraphNames$Graph" 9 1 0 0 false := ⟨"GraphNames$Graph", TX1, 4, tyX1, "GraphNames$Graph", rfl, inGX1, tyX1_ok, nmX1, by decide, (lw_good_at w_163 rfl), Or.inl rfl, rfl, rfl, rfl, by decide, fun h => Bool.noConfusion h⟩
theorem fl_X2_28_X1 : z_FLg "GraphNames$Leaf" 28 1 0 0 := ⟨"GraphNames$Graph", TX1, 4, tyX1, "GraphNames$Graph", rfl, inGX1, tyX1_ok, nmX1, by decide, (lw_good_at w_164 rfl), Or.inl rfl, rfl, rfl, by decide⟩
theorem fl_X3_45_X1 : z_FLg "GraphNames$Pairing" 45 1 0 0 := ⟨"GraphNames$Graph", TX1, 4, tyX1, "GraphNames$Graph", rfl, inGX1, tyX1_ok, nmX1, by decide, (lw_good_at w_165 rfl), Or.inl rfl, rfl, rfl, by decide⟩
theorem fl_X0_42_X1 : z_FLg "GraphNames$Cells" 42 1 0 0 := ⟨"GraphNames$Graph", TX1, 4, tyX1, "GraphNames$Graph", rfl, inGX1, tyX1_ok, nmX1, by decide, (lw_good_at w_166 rfl), Or.inl rfl, rfl, rfl, by decide⟩
theorem fl_X9_119_X1 : z_FLg "GraphNames" 119 1 0 0 := ⟨"GraphNames$Graph", TX1, 4, tyX1, "GraphNames$Graph", rfl, inGX1, tyX1_ok, nmX1, by decide, (lw_good_at w_167 rfl), Or.inl rfl, rfl, rfl, by decide⟩
theorem fl_X6_47_X1 : z_FLg "GraphNames$Search" 47 1 0 0 := ⟨"GraphNames$Graph", TX1, 4, tyX1, "GraphNames$Graph", rfl, inGX1, tyX1_ok, nmX1, by decide, (lw_good_at w_168 rfl), Or.inl rfl, rfl, rfl, by decide⟩
theorem fl_X8_88_X1 : z_FLg "GraphNames$Walk" 88 1 0 0 := ⟨"GraphNames$Graph", TX1, 4, tyX1, "GraphNames$Graph", rfl, inGX1, tyX1_ok, nmX1, by decide, (lw_good_at w_169 rfl), Or.inl rfl, rfl, rfl, by decide⟩
theorem fl_X1_15_X1 : z_FLg "GraphNames$Graph" 15 1 1 3 := ⟨"GraphNames$Graph", TX1, 4, tyX1, "GraphNames$Graph", rfl, inGX1, tyX1_ok, nmX1, by decide, (lw_good_at w_170 rfl), Or.inl rfl, rfl, rfl, by decide⟩
theorem fp_X1_15_X1 : z_FL "GraphNames$Graph" 15 1 1 3 true := ⟨"GraphNames$Graph", TX1, 4, tyX1, "GraphNames$Graph", rfl, inGX1, tyX1_ok, nmX1, by decide, (lw_good_at w_170 rfl), Or.inl rfl, rfl, rfl, rfl, by decide, fun _ => rfl⟩
theorem fl_X2_44_X1 : z_FLg "GraphNames$Leaf" 44 1 1 3 := ⟨"GraphNames$Graph", TX1, 4, tyX1, "GraphNames$Graph", rfl, inGX1, tyX1_ok, nmX1, by decide, (lw_good_at w_171 rfl), Or.inl rfl, rfl, rfl, by decide⟩
theorem fl_X0_45_X1 : z_FLg "GraphNames$Cells" 45 1 1 3 := ⟨"GraphNames$Graph", TX1, 4, tyX1, "GraphNames$Graph", rfl, inGX1, tyX1_ok, nmX1, by decide, (lw_good_at w_172 rfl), Or.inl rfl, rfl, rfl, by decide⟩
theorem fl_X3_66_X1 : z_FLg "GraphNames$Pairing" 66 1 1 3 := ⟨"GraphNames$Graph", TX1, 4, tyX1, "GraphNames$Graph", rfl, inGX1, tyX1_ok, nmX1, by decide, (lw_good_at w_173 rfl), Or.inl rfl, rfl, rfl, by decide⟩
theorem fl_X9_143_X1 : z_FLg "GraphNames" 143 1 1 3 := ⟨"GraphNames$Graph", TX1, 4, tyX1, "GraphNames$Graph", rfl, inGX1, tyX1_ok, nmX1, by decide, (lw_good_at w_174 rfl), Or.inl rfl, rfl, rfl, by decide⟩
theorem fl_X5_103_X1 : z_FLg "GraphNames$Reader" 103 1 1 3 := ⟨"GraphNames$Graph", TX1, 4, tyX1, "GraphNames$Graph", rfl, inGX1, tyX1_ok, nmX1, by decide, (lw_good_at w_175 rfl), Or.inl rfl, rfl, rfl, by decide⟩
theorem fl_X1_21_X1 : z_FLg "GraphNames$Graph" 21 1 2 3 := ⟨"GraphNames$Graph", TX1, 4, tyX1, "GraphNames$Graph", rfl, inGX1, tyX1_ok, nmX1, by decide, (lw_good_at w_176 rfl), Or.inl rfl, rfl, rfl, by decide⟩
theorem fp_X1_21_X1 : z_FL "GraphNames$Graph" 21 1 2 3 true := ⟨"GraphNames$Graph", TX1, 4, tyX1, "GraphNames$Graph", rfl, inGX1, tyX1_ok, nmX1, by decide, (lw_good_at w_176 rfl), Or.inl rfl, rfl, rfl, rfl, by decide, fun _ => rfl⟩
theorem fl_X2_47_X1 : z_FLg "GraphNames$Leaf" 47 1 2 3 := ⟨"GraphNames$Graph", TX1, 4, tyX1, "GraphNames$Graph", rfl, inGX1, tyX1_ok, nmX1, by decide, (lw_good_at w_177 rfl), Or.inl rfl, rfl, rfl, by decide⟩
theorem fl_X3_69_X1 : z_FLg "GraphNames$Pairing" 69 1 2 3 := ⟨"GraphNames$Graph", TX1, 4, tyX1, "GraphNames$Graph", rfl, inGX1, tyX1_ok, nmX1, by decide, (lw_good_at w_178 rfl), Or.inl rfl, rfl, rfl, by decide⟩
theorem fl_X9_147_X1 : z_FLg "GraphNames" 147 1 2 3 := ⟨"GraphNames$Graph", TX1, 4, tyX1, "GraphNames$Graph", rfl, inGX1, tyX1_ok, nmX1, by decide, (lw_good_at w_179 rfl), Or.inl rfl, rfl, rfl, by decide⟩
theorem fl_X5_113_X1 : z_FLg "GraphNames$Reader" 113 1 2 3 := ⟨"GraphNames$Graph", TX1, 4, tyX1, "GraphNames$Graph", rfl, inGX1, tyX1_ok, nmX1, by decide, (lw_good_at w_180 rfl), Or.inl rfl, rfl, rfl, by decide⟩
theorem fl_X1_24_X1 : z_FLg "GraphNames$Graph" 24 1 3 3 := ⟨"GraphNames$Graph", TX1, 4, tyX1, "GraphNames$Graph", rfl, inGX1, tyX1_ok, nmX1, by decide, (lw_good_at w_181 rfl), Or.inl rfl, rfl, rfl, by decide⟩
theorem fp_X1_24_X1 : z_FL "GraphNames$Graph" 24 1 3 3 true := ⟨"GraphNames$Graph", TX1, 4, tyX1, "GraphNames$Graph", rfl, inGX1, tyX1_ok, nmX1, by decide, (lw_good_at w_181 rfl), Or.inl rfl, rfl, rfl, rfl, by decide, fun _ => rfl⟩
theorem fl_X0_66_X1 : z_FLg "GraphNames$Cells" 66 1 3 3 := ⟨"GraphNames$Graph", TX1, 4, tyX1, "GraphNames$Graph", rfl, inGX1, tyX1_ok, nmX1, by decide, (lw_good_at w_182 rfl), Or.inl rfl, rfl, rfl, by decide⟩
theorem fl_X9_151_X1 : z_FLg "GraphNames" 151 1 3 3 := ⟨"GraphNames$Graph", TX1, 4, tyX1, "GraphNames$Graph", rfl, inGX1, tyX1_ok, nmX1, by decide, (lw_good_at w_183 rfl), Or.inl rfl, rfl, rfl, by decide⟩
theorem fl_X5_9_X5 : z_FLg "GraphNames$Reader" 9 5 0 0 := ⟨"GraphNames$Reader", TX5, 10, tyX5, "GraphNames$Reader", rfl, inGX5, tyX5_ok, nmX5, by decide, (lw_good_at w_194 rfl), Or.inl rfl, rfl, rfl, by decide⟩
theorem fp_X5_9_X5 : z_FL "GraphNames$Reader" 9 5 0 0 false := ⟨"GraphNames$Reader", TX5, 10, tyX5, "GraphNames$Reader", rfl, inGX5, tyX5_ok, nmX5, by decide, (lw_good_at w_194 rfl), Or.inl rfl, rfl, rfl, rfl, by decide, fun h => Bool.noConfusion h⟩
theorem fl_X9_87_X5 : z_FLg "GraphNames" 87 5 0 0 := ⟨"GraphNames$Reader", TX5, 10, tyX5, "GraphNames$Reader", rfl, inGX5, tyX5_ok, nmX5, by decide, (lw_good_at w_195 rfl), Or.inl rfl, rfl, rfl, by decide⟩
theorem fp_X5_15_X5 : z_FL "GraphNames$Reader" 15 5 1 0 false := ⟨"GraphNames$Reader", TX5, 10, tyX5, "GraphNames$Reader", rfl, inGX5, tyX5_ok, nmX5, by decide, (lw_good_at w_196 rfl), Or.inl rfl, rfl, rfl, rfl, by decide, fun h => Bool.noConfusion h⟩
theorem fl_X9_105_X5 : z_FLg "GraphNames" 105 5 1 0 := ⟨"GraphNames$Reader", TX5, 10, tyX5, "GraphNames$Reader", rfl, inGX5, tyX5_ok, nmX5, by decide, (lw_good_at w_197 rfl), Or.inl rfl, rfl, rfl, by decide⟩
theorem fp_X5_18_X5 : z_FL "GraphNames$Reader" 18 5 2 0 false := ⟨"GraphNames$Reader", TX5, 10, tyX5, "GraphNames$Reader", rfl, inGX5, tyX5_ok, nmX5, by decide, (lw_good_at w_198 rfl), Or.inl rfl, rfl, rfl, rfl, by decide, fun h => Bool.noConfusion h⟩
theorem fl_X9_125_X5 : z_FLg "GraphNames" 125 5 2 0 := ⟨"GraphNames$Reader", TX5, 10, tyX5, "GraphNames$Reader", rfl, inGX5, tyX5_ok, nmX5, by decide, (lw_good_at w_199 rfl), Or.inl rfl, rfl, rfl, by decide⟩
theorem fl_X5_24_X5 : z_FLg "GraphNames$Reader" 24 5 3 3 := ⟨"GraphNames$Reader", TX5, 10, tyX5, "GraphNames$Reader", rfl, inGX5, tyX5_ok, nmX5, by decide, (lw_good_at w_200 rfl), Or.inl rfl, rfl, rfl, by decide⟩
theorem fp_X5_24_X5 : z_FL "GraphNames$Reader" 24 5 3 3 true := ⟨"GraphNames$Reader", TX5, 10, tyX5, "GraphNames$Reader", rfl, inGX5, tyX5_ok, nmX5, by decide, (lw_good_at w_200 rfl), Or.inl rfl, rfl, rfl, rfl, by decide, fun _ => rfl⟩
theorem fl_X9_112_X5 : z_FLg "GraphNames" 112 5 3 3 := ⟨"GraphNames$Reader", TX5, 10, tyX5, "GraphNames$Reader", rfl, inGX5, tyX5_ok, nmX5, by decide, (lw_good_at w_201 rfl), Or.inl rfl, rfl, rfl, by decide⟩
theorem fl_X5_28_X5 : z_FLg "GraphNames$Reader" 28 5 4 3 := ⟨"GraphNames$Reader", TX5, 10, tyX5, "GraphNames$Reader", rfl, inGX5, tyX5_ok, nmX5, by decide, (lw_good_at w_202 rfl), Or.inl rfl, rfl, rfl, by decide⟩
theorem fp_X5_28_X5 : z_FL "GraphNames$Reader" 28 5 4 3 true := ⟨"GraphNames$Reader", TX5, 10, tyX5, "GraphNames$Reader", rfl, inGX5, tyX5_ok, nmX5, by decide, (lw_good_at w_202 rfl), Or.inl rfl, rfl, rfl, rfl, by decide, fun _ => rfl⟩
theorem fl_X5_32_X5 : z_FLg "GraphNames$Reader" 32 5 5 0 := ⟨"GraphNames$Reader", TX5, 10, tyX5, "GraphNames$Reader", rfl, inGX5, tyX5_ok, nmX5, by decide, (lw_good_at w_203 rfl), Or.inl rfl, rfl, rfl, by decide⟩
theorem fp_X5_32_X5 : z_FL "GraphNames$Reader" 32 5 5 0 false := ⟨"GraphNames$Reader", TX5, 10, tyX5, "GraphNames$Reader", rfl, inGX5, tyX5_ok, nmX5, by decide, (lw_good_at w_203 rfl), Or.inl rfl, rfl, rfl, rfl, by decide, fun h => Bool.noConfusion h⟩
theorem fl_X5_35_X5 : z_FLg "GraphNames$Reader" 35 5 6 0 := ⟨"GraphNames$Reader", TX5, 10, tyX5, "GraphNames$Reader", rfl, inGX5, tyX5_ok, nmX5, by decide, (lw_good_at w_204 rfl), Or.inl rfl, rfl, rfl, by decide⟩
theorem fp_X5_35_X5 : z_FL "GraphNames$Reader" 35 5 6 0 false := ⟨"GraphNames$Reader", TX5, 10, tyX5, "GraphNames$Reader", rfl, inGX5, tyX5_ok, nmX5, by decide, (lw_good_at w_204 rfl), Or.inl rfl, rfl, rfl, rfl, by decide, fun h => Bool.noConfusion h⟩
theorem fl_X5_38_X5 : z_FLg "GraphNames$Reader" 38 5 7 0 := ⟨"GraphNames$Reader", TX5, 10, tyX5, "GraphNames$Reader", rfl, inGX5, tyX5_ok, nmX5, by decide, (lw_good_at w_205 rfl), Or.inl rfl, rfl, rfl, by decide⟩
theorem fp_X5_38_X5 : z_FL "GraphNames$Reader" 38 5 7 0 false := ⟨"GraphNames$Reader", TX5, 10, tyX5, "GraphNames$Reader", rfl, inGX5, tyX5_ok, nmX5, by decide, (lw_good_at w_205 rfl), Or.inl rfl, rfl, rfl, rfl, by decide, fun h => Bool.noConfusion h⟩
theorem fl_X5_41_X5 : z_FLg "GraphNames$Reader" 41 5 8 0 := ⟨"GraphNames$Reader", TX5, 10, tyX5, "GraphNames$Reader", rfl, inGX5, tyX5_ok, nmX5, by decide, (lw_good_at w_206 rfl), Or.inl rfl, rfl, rfl, by decide⟩
theorem fp_X5_41_X5 : z_FL "GraphNames$Reader" 41 5 8 0 false := ⟨"GraphNames$Reader", TX5, 10, tyX5, "GraphNames$Reader", rfl, inGX5, tyX5_ok, nmX5, by decide, (lw_good_at w_206 rfl), Or.inl rfl, rfl, rfl, rfl, by decide, fun h => Bool.noConfusion h⟩
theorem fl_X5_44_X5 : z_FLg "GraphNames$Reader" 44 5 9 0 := ⟨"GraphNames$Reader", TX5, 10, tyX5, "GraphNames$Reader", rfl, inGX5, tyX5_ok, nmX5, by decide, (lw_good_at w_207 rfl), Or.inl rfl, rfl, rfl, by decide⟩
theorem fp_X5_44_X5 : z_FL "GraphNames$Reader" 44 5 9 0 false := ⟨"GraphNames$Reader", TX5, 10, tyX5, "GraphNames$Reader", rfl, inGX5, tyX5_ok, nmX5, by decide, (lw_good_at w_207 rfl), Or.inl rfl, rfl, rfl, rfl, by decide, fun h => Bool.noConfusion h⟩
theorem fl_X4_9_X4 : z_FLg "GraphNames$Past" 9 4 0 0 := ⟨"GraphNames$Past", TX4, 4, tyX4, "GraphNames$Past", rfl, inGX4, tyX4_ok, nmX4, by decide, (lw_good_at w_237 rfl), Or.inl rfl, rfl, rfl, by decide⟩
theorem fp_X4_9_X4 : z_FL "GraphNames$Past" 9 4 0 0 false := ⟨"GraphNames$Past", TX4, 4, tyX4, "GraphNames$Past", rfl, inGX4, tyX4_ok, nmX4, by decide, (lw_good_at w_237 rfl), Or.inl rfl, rfl, rfl, rfl, by decide, fun h => Bool.noConfusion h⟩
theorem fl_X9_312_X4 : z_FLg "GraphNames" 312 4 0 0 := ⟨"GraphNames$Past", TX4, 4, tyX4, "GraphNames$Past", rfl, inGX4, tyX4_ok, nmX4, by decide, (lw_good_at w_238 rfl), Or.inl rfl, rfl, rfl, by decide⟩
theorem fp_X9_312_X4 : z_FL "GraphNames" 312 4 0 0 false := ⟨"GraphNames$Past", TX4, 4, tyX4, "GraphNames$Past", rfl, inGX4, tyX4_ok, nmX4, by decide, (lw_good_at w_238 rfl), Or.inl rfl, rfl, rfl, rfl, by decide, fun h => Bool.noConfusion h⟩
theorem fl_X4_15_X4 : z_FLg "GraphNames$Past" 15 4 1 0 := ⟨"GraphNames$Past", TX4, 4, tyX4, "GraphNames$Past", rfl, inGX4, tyX4_ok, nmX4, by decide, (lw_good_at w_239 rfl), Or.inl rfl, rfl, rfl, by decide⟩
theorem fp_X4_15_X4 : z_FL "GraphNames$Past" 15 4 1 0 false := ⟨"GraphNames$Past", TX4, 4, tyX4, "GraphNames$Past", rfl, inGX4, tyX4_ok, nmX4, by decide, (lw_good_at w_239 rfl), Or.inl rfl, rfl, rfl, rfl, by decide, fun h => Bool.noConfusion h⟩
theorem fl_X4_18_X4 : z_FLg "GraphNames$Past" 18 4 2 3 := ⟨"GraphNames$Past", TX4, 4, tyX4, "GraphNames$Past", rfl, inGX4, tyX4_ok, nmX4, by decide, (lw_good_at w_240 rfl), Or.inl rfl, rfl, rfl, by decide⟩
theorem fp_X4_18_X4 : z_FL "GraphNames$Past" 18 4 2 3 true := ⟨"GraphNames$Past", TX4, 4, tyX4, "GraphNames$Past", rfl, inGX4, tyX4_ok, nmX4, by decide, (lw_good_at w_240 rfl), Or.inl rfl, rfl, rfl, rfl, by decide, fun _ => rfl⟩
theorem fl_X4_24_X4 : z_FLg "GraphNames$Past" 24 4 3 3 := ⟨"GraphNames$Past", TX4, 4, tyX4, "GraphNames$Past", rfl, inGX4, tyX4_ok, nmX4, by decide, (lw_good_at w_241 rfl), Or.inl rfl, rfl, rfl, by decide⟩
theorem fp_X4_24_X4 : z_FL "GraphNames$Past" 24 4 3 3 true := ⟨"GraphNames$Past", TX4, 4, tyX4, "GraphNames$Past", rfl, inGX4, tyX4_ok, nmX4, by decide, (lw_good_at w_241 rfl), Or.inl rfl, rfl, rfl, rfl, by decide, fun _ => rfl⟩
theorem fl_X0_9_X0 : z_FLg "GraphNames$Cells" 9 0 0 0 := ⟨"GraphNames$Cells", TX0, 7, tyX0, "GraphNames$Cells", rfl, inGX0, tyX0_ok, nmX0, by decide, (lw_good_at w_257 rfl), Or.inl rfl, rfl, rfl, by decide⟩
theorem fp_X0_9_X0 : z_FL "GraphNames$Cells" 9 0 0 0 false := ⟨"GraphNames$Cells", TX0, 7, tyX0, "GraphNames$Cells", rfl, inGX0, tyX0_ok, nmX0, by decide, (lw_good_at w_257 rfl), Or.inl rfl, rfl, rfl, rfl, by decide, fun h => Bool.noConfusion h⟩
theorem fl_X9_135_X0 : z_FLg "GraphNames" 135 0 0 0 := ⟨"GraphNames$Cells", TX0, 7, tyX0, "GraphNames$Cells", rfl, inGX0, tyX0_ok, nmX0, by decide, (lw_good_at w_258 rfl), Or.inl rfl, rfl, rfl, by decide⟩
theorem fl_X0_15_X0 : z_FLg "GraphNames$Cells" 15 0 1 0 := ⟨"GraphNames$Cells", TX0, 7, tyX0, "GraphNames$Cells", rfl, inGX0, tyX0_ok, nmX0, by decide, (lw_good_at w_259 rfl), Or.inl rfl, rfl, rfl, by decide⟩
theorem fp_X0_15_X0 : z_FL "GraphNames$Cells" 15 0 1 0 false := ⟨"GraphNames$Cells", TX0, 7, tyX0, "GraphNames$Cells", rfl, inGX0, tyX0_ok, nmX0, by decide, (lw_good_at w_259 rfl), Or.inl rfl, rfl, rfl, rfl, by decide, fun h => Bool.noConfusion h⟩
theorem fl_X9_162_X0 : z_FLg "GraphNames" 162 0 1 0 := ⟨"GraphNames$Cells", TX0, 7, tyX0, "GraphNames$Cells", rfl, inGX0, tyX0_ok, nmX0, by decide, (lw_good_at w_260 rfl), Or.inl rfl, rfl, rfl, by decide⟩
theorem fl_X0_18_X0 : z_FLg "GraphNames$Cells" 18 0 2 3 := ⟨"GraphNames$Cells", TX0, 7, tyX0, "GraphNames$Cells", rfl, inGX0, tyX0_ok, nmX0, by decide, (lw_good_at w_261 rfl), Or.inl rfl, rfl, rfl, by decide⟩
theorem fp_X0_18_X0 : z_FL "GraphNames$Cells" 18 0 2 3 true := ⟨"GraphNames$Cells", TX0, 7, tyX0, "GraphNames$Cells", rfl, inGX0, tyX0_ok, nmX0, by decide, (lw_good_at w_261 rfl), Or.inl rfl, rfl, rfl, rfl, by decide, fun _ => rfl⟩
theorem fl_X2_33_X0 : z_FLg "GraphNames$Leaf" 33 0 2 3 := ⟨"GraphNames$Cells", TX0, 7, tyX0, "GraphNames$Cells", rfl, inGX0, tyX0_ok, nmX0, by decide, (lw_good_at w_262 rfl), Or.inl rfl, rfl, rfl, by decide⟩
theorem fl_X9_171_X0 : z_FLg "GraphNames" 171 0 2 3 := ⟨"GraphNames$Cells", TX0, 7, tyX0, "GraphNames$Cells", rfl, inGX0, tyX0_ok, nmX0, by decide, (lw_good_at w_263 rfl), Or.inl rfl, rfl, rfl, by decide⟩
theorem fl_X0_22_X0 : z_FLg "GraphNames$Cells" 22 0 3 3 := ⟨"GraphNames$Cells", TX0, 7, tyX0, "GraphNames$Cells", rfl, inGX0, tyX0_ok, nmX0, by decide, (lw_good_at w_264 rfl), Or.inl rfl, rfl, rfl, by decide⟩
theorem fp_X0_22_X0 : z_FL "GraphNames$Cells" 22 0 3 3 true := ⟨"GraphNames$Cells", TX0, 7, tyX0, "GraphNames$Cells", rfl, inGX0, tyX0_ok, nmX0, by decide, (lw_good_at w_264 rfl), Or.inl rfl, rfl, rfl, rfl, by decide, fun _ => rfl⟩
theorem fl_X0_26_X0 : z_FLg "GraphNames$Cells" 26 0 4 3 := ⟨"GraphNames$Cells", TX0, 7, tyX0, "GraphNames$Cells", rfl, inGX0, tyX0_ok, nmX0, by decide, (lw_good_at w_265 rfl), Or.inl rfl, rfl, rfl, by decide⟩
theorem fp_X0_26_X0 : z_FL "GraphNames$Cells" 26 0 4 3 true := ⟨"GraphNames$Cells", TX0, 7, tyX0, "GraphNames$Cells", rfl, inGX0, tyX0_ok, nmX0, by decide, (lw_good_at w_265 rfl), Or.inl rfl, rfl, rfl, rfl, by decide, fun _ => rfl⟩
theorem fl_X0_29_X0 : z_FLg "GraphNames$Cells" 29 0 5 3 := ⟨"GraphNames$Cells", TX0, 7, tyX0, "GraphNames$Cells", rfl, inGX0, tyX0_ok, nmX0, by decide, (lw_good_at w_266 rfl), Or.inl rfl, rfl, rfl, by decide⟩
theorem fp_X0_29_X0 : z_FL "GraphNames$Cells" 29 0 5 3 true := ⟨"GraphNames$Cells", TX0, 7, tyX0, "GraphNames$Cells", rfl, inGX0, tyX0_ok, nmX0, by decide, (lw_good_at w_266 rfl), Or.inl rfl, rfl, rfl, rfl, by decide, fun _ => rfl⟩
theorem fl_X0_32_X0 : z_FLg "GraphNames$Cells" 32 0 6 0 := ⟨"GraphNames$Cells", TX0, 7, tyX0, "GraphNames$Cells", rfl, inGX0, tyX0_ok, nmX0, by decide, (lw_good_at w_267 rfl), Or.inl rfl, rfl, rfl, by decide⟩
theorem fp_X0_32_X0 : z_FL "GraphNames$Cells" 32 0 6 0 false := ⟨"GraphNames$Cells", TX0, 7, tyX0, "GraphNames$Cells", rfl, inGX0, tyX0_ok, nmX0, by decide, (lw_good_at w_267 rfl), Or.inl rfl, rfl, rfl, rfl, by decide, fun h => Bool.noConfusion h⟩
theorem fl_X3_9_X3 : z_FLg "GraphNames$Pairing" 9 3 0 0 := ⟨"GraphNames$Pairing", TX3, 8, tyX3, "GraphNames$Pairing", rfl, inGX3, tyX3_ok, nmX3, by decide, (lw_good_at w_293 rfl), Or.inl rfl, rfl, rfl, by decide⟩
theorem fp_X3_9_X3 : z_FL "GraphNames$Pairing" 9 3 0 0 false := ⟨"GraphNames$Pairing", TX3, 8, tyX3, "GraphNames$Pairing", rfl, inGX3, tyX3_ok, nmX3, by decide, (lw_good_at w_293 rfl), Or.inl rfl, rfl, rfl, rfl, by decide, fun h => Bool.noConfusion h⟩
theorem fl_X9_249_X3 : z_FLg "GraphNames" 249 3 0 0 := ⟨"GraphNames$Pairing", TX3, 8, tyX3, "GraphNames$Pairing", rfl, inGX3, tyX3_ok, nmX3, by decide, (lw_good_at w_294 rfl), Or.inl rfl, rfl, rfl, by decide⟩
theorem fl_X3_15_X3 : z_FLg "GraphNames$Pairing" 15 3 1 3 := ⟨"GraphNames$Pairing", TX3, 8, tyX3, "GraphNames$Pairing", rfl, inGX3, tyX3_ok, nmX3, by decide, (lw_good_at w_295 rfl), Or.inl rfl, rfl, rfl, by decide⟩
theorem fp_X3_15_X3 : z_FL "GraphNames$Pairing" 15 3 1 3 true := ⟨"GraphNames$Pairing", TX3, 8, tyX3, "GraphNames$Pairing", rfl, inGX3, tyX3_ok, nmX3, by decide, (lw_good_at w_295 rfl), Or.inl rfl, rfl, rfl, rfl, by decide, fun _ => rfl⟩
theorem fl_X9_264_X3 : z_FLg "GraphNames" 264 3 1 3 := ⟨"GraphNames$Pairing", TX3, 8, tyX3, "GraphNames$Pairing", rfl, inGX3, tyX3_ok, nmX3, by decide, (lw_good_at w_296 rfl), Or.inl rfl, rfl, rfl, by decide⟩
theorem fl_X3_19_X3 : z_FLg "GraphNames$Pairing" 19 3 2 3 := ⟨"GraphNames$Pairing", TX3, 8, tyX3, "GraphNames$Pairing", rfl, inGX3, tyX3_ok, nmX3, by decide, (lw_good_at w_297 rfl), Or.inl rfl, rfl, rfl, by decide⟩
theorem fp_X3_19_X3 : z_FL "GraphNames$Pairing" 19 3 2 3 true := ⟨"GraphNames$Pairing", TX3, 8, tyX3, "GraphNames$Pairing", rfl, inGX3, tyX3_ok, nmX3, by decide, (lw_good_at w_297 rfl), Or.inl rfl, rfl, rfl, rfl, by decide, fun _ => rfl⟩
theorem fl_X9_258_X3 : z_FLg "GraphNames" 258 3 2 3 := ⟨"GraphNames$Pairing", TX3, 8, tyX3, "GraphNames$Pairing", rfl, inGX3, tyX3_ok, nmX3, by decide, (lw_good_at w_298 rfl), Or.inl rfl, rfl, rfl, by decide⟩
theorem fl_X3_25_X3 : z_FLg "GraphNames$Pairing" 25 3 3 3 := ⟨"GraphNames$Pairing", TX3, 8, tyX3, "GraphNames$Pairing", rfl, inGX3, tyX3_ok, nmX3, by decide, (lw_good_at w_299 rfl), Or.inl rfl, rfl, rfl, by decide⟩
theorem fp_X3_25_X3 : z_FL "GraphNames$Pairing" 25 3 3 3 true := ⟨"GraphNames$Pairing", TX3, 8, tyX3, "GraphNames$Pairing", rfl, inGX3, tyX3_ok, nmX3, by decide, (lw_good_at w_299 rfl), Or.inl rfl, rfl, rfl, rfl, by decide, fun _ => rfl⟩
theorem fl_X3_29_X3 : z_FLg "GraphNames$Pairing" 29 3 4 3 := ⟨"GraphNames$Pairing", TX3, 8, tyX3, "GraphNames$Pairing", rfl, inGX3, tyX3_ok, nmX3, by decide, (lw_good_at w_300 rfl), Or.inl rfl, rfl, rfl, by decide⟩
theorem fp_X3_29_X3 : z_FL "GraphNames$Pairing" 29 3 4 3 true := ⟨"GraphNames$Pairing", TX3, 8, tyX3, "GraphNames$Pairing", rfl, inGX3, tyX3_ok, nmX3, by decide, (lw_good_at w_300 rfl), Or.inl rfl, rfl, rfl, rfl, by decide, fun _ => rfl⟩
theorem fl_X3_32_X3 : z_FLg "GraphNames$Pairing" 32 3 5 3 := ⟨"GraphNames$Pairing", TX3, 8, tyX3, "GraphNames$Pairing", rfl, inGX3, tyX3_ok, nmX3, by decide, (lw_good_at w_301 rfl), Or.inl rfl, rfl, rfl, by decide⟩
theorem fp_X3_32_X3 : z_FL "GraphNames$Pairing" 32 3 5 3 true := ⟨"GraphNames$Pairing", TX3, 8, tyX3, "GraphNames$Pairing", rfl, inGX3, tyX3_ok, nmX3, by decide, (lw_good_at w_301 rfl), Or.inl rfl, rfl, rfl, rfl, by decide, fun _ => rfl⟩
theorem fl_X3_35_X3 : z_FLg "GraphNames$Pairing" 35 3 6 0 := ⟨"GraphNames$Pairing", TX3, 8, tyX3, "GraphNames$Pairing", rfl, inGX3, tyX3_ok, nmX3, by decide, (lw_good_at w_302 rfl), Or.inl rfl, rfl, rfl, by decide⟩
theorem fp_X3_35_X3 : z_FL "GraphNames$Pairing" 35 3 6 0 false := ⟨"GraphNames$Pairing", TX3, 8, tyX3, "GraphNames$Pairing", rfl, inGX3, tyX3_ok, nmX3, by decide, (lw_good_at w_302 rfl), Or.inl rfl, rfl, rfl, rfl, by decide, fun h => Bool.noConfusion h⟩
theorem fl_X3_38_X3 : z_FLg "GraphNames$Pairing" 38 3 7 0 := ⟨"GraphNames$Pairing", TX3, 8, tyX3, "GraphNames$Pairing", rfl, inGX3, tyX3_ok, nmX3, by decide, (lw_good_at w_303 rfl), Or.inl rfl, rfl, rfl, by decide⟩
theorem fp_X3_38_X3 : z_FL "GraphNames$Pairing" 38 3 7 0 false := ⟨"GraphNames$Pairing", TX3, 8, tyX3, "GraphNames$Pairing", rfl, inGX3, tyX3_ok, nmX3, by decide, (lw_good_at w_303 rfl), Or.inl rfl, rfl, rfl, rfl, by decide, fun h => Bool.noConfusion h⟩
theorem fl_X2_9_X2 : z_FLg "GraphNames$Leaf" 9 2 0 0 := ⟨"GraphNames$Leaf", TX2, 5, tyX2, "GraphNames$Leaf", rfl, inGX2, tyX2_ok, nmX2, by decide, (lw_good_at w_340 rfl), Or.inl rfl, rfl, rfl, by decide⟩
theorem fp_X2_9_X2 : z_FL "GraphNames$Leaf" 9 2 0 0 false := ⟨"GraphNames$Leaf", TX2, 5, tyX2, "GraphNames$Leaf", rfl, inGX2, tyX2_ok, nmX2, by decide, (lw_good_at w_340 rfl), Or.inl rfl, rfl, rfl, rfl, by decide, fun h => Bool.noConfusion h⟩
theorem fl_X7_20_X2 : z_FLg "GraphNames$Tree" 20 2 0 0 := ⟨"GraphNames$Leaf", TX2, 5, tyX2, "GraphNames$Leaf", rfl, inGX2, tyX2_ok, nmX2, by decide, (lw_good_at w_341 rfl), Or.inl rfl, rfl, rfl, by decide⟩
theorem fl_X2_15_X2 : z_FLg "GraphNames$Leaf" 15 2 1 0 := ⟨"GraphNames$Leaf", TX2, 5, tyX2, "GraphNames$Leaf", rfl, inGX2, tyX2_ok, nmX2, by decide, (lw_good_at w_342 rfl), Or.inl rfl, rfl, rfl, by decide⟩
theorem fp_X2_15_X2 : z_FL "GraphNames$Leaf" 15 2 1 0 false := ⟨"GraphNames$Leaf", TX2, 5, tyX2, "GraphNames$Leaf", rfl, inGX2, tyX2_ok, nmX2, by decide, (lw_good_at w_342 rfl), Or.inl rfl, rfl, rfl, rfl, by decide, fun h => Bool.noConfusion h⟩
theorem fl_X9_225_X2 : z_FLg "GraphNames" 225 2 1 0 := ⟨"GraphNames$Leaf", TX2, 5, tyX2, "GraphNames$Leaf", rfl, inGX2, tyX2_ok, nmX2, by decide, (lw_good_at w_343 rfl), Or.inl rfl, rfl, rfl, by decide⟩
theorem fl_X2_18_X2 : z_FLg "GraphNames$Leaf" 18 2 2 3 := ⟨"GraphNames$Leaf", TX2, 5, tyX2, "GraphNames$Leaf", rfl, inGX2, tyX2_ok, nmX2, by decide, (lw_good_at w_344 rfl), Or.inl rfl, rfl, rfl, by decide⟩
theorem fp_X2_18_X2 : z_FL "GraphNames$Leaf" 18 2 2 3 true := ⟨"GraphNames$Leaf", TX2, 5, tyX2, "GraphNames$Leaf", rfl, inGX2, tyX2_ok, nmX2, by decide, (lw_good_at w_344 rfl), Or.inl rfl, rfl, rfl, rfl, by decide, fun _ => rfl⟩
theorem fl_X8_66_X2 : z_FLg "GraphNames$Walk" 66 2 2 3 := ⟨"GraphNames$Leaf", TX2, 5, tyX2, "GraphNames$Leaf", rfl, inGX2, tyX2_ok, nmX2, by decide, (lw_good_at w_345 rfl), Or.inl rfl, rfl, rfl, by decide⟩
theorem fl_X6_61_X2 : z_FLg "GraphNames$Search" 61 2 2 3 := ⟨"GraphNames$Leaf", TX2, 5, tyX2, "GraphNames$Leaf", rfl, inGX2, tyX2_ok, nmX2, by decide, (lw_good_at w_346 rfl), Or.inl rfl, rfl, rfl, by decide⟩
theorem fl_X9_200_X2 : z_FLg "GraphNames" 200 2 2 3 := ⟨"GraphNames$Leaf", TX2, 5, tyX2, "GraphNames$Leaf", rfl, inGX2, tyX2_ok, nmX2, by decide, (lw_good_at w_347 rfl), Or.inl rfl, rfl, rfl, by decide⟩
theorem fl_X2_22_X2 : z_FLg "GraphNames$Leaf" 22 2 3 3 := ⟨"GraphNames$Leaf", TX2, 5, tyX2, "GraphNames$Leaf", rfl, inGX2, tyX2_ok, nmX2, by decide, (lw_good_at w_348 rfl), Or.inl rfl, rfl, rfl, by decide⟩
theorem fp_X2_22_X2 : z_FL "GraphNames$Leaf" 22 2 3 3 true := ⟨"GraphNames$Leaf", TX2, 5, tyX2, "GraphNames$Leaf", rfl, inGX2, tyX2_ok, nmX2, by decide, (lw_good_at w_348 rfl), Or.inl rfl, rfl, rfl, rfl, by decide, fun _ => rfl⟩
theorem fl_X9_228_X2 : z_FLg "GraphNames" 228 2 3 3 := ⟨"GraphNames$Leaf", TX2, 5, tyX2, "GraphNames$Leaf", rfl, inGX2, tyX2_ok, nmX2, by decide, (lw_good_at w_349 rfl), Or.inl rfl, rfl, rfl, by decide⟩
theorem fl_X2_25_X2 : z_FLg "GraphNames$Leaf" 25 2 4 3 := ⟨"GraphNames$Leaf", TX2, 5, tyX2, "GraphNames$Leaf", rfl, inGX2, tyX2_ok, nmX2, by decide, (lw_good_at w_350 rfl), Or.inl rfl, rfl, rfl, by decide⟩
theorem fp_X2_25_X2 : z_FL "GraphNames$Leaf" 25 2 4 3 true := ⟨"GraphNames$Leaf", TX2, 5, tyX2, "GraphNames$Leaf", rfl, inGX2, tyX2_ok, nmX2, by decide, (lw_good_at w_350 rfl), Or.inl rfl, rfl, rfl, rfl, by decide, fun _ => rfl⟩
theorem fl_X6_78_X2 : z_FLg "GraphNames$Search" 78 2 4 3 := ⟨"GraphNames$Leaf", TX2, 5, tyX2, "GraphNames$Leaf", rfl, inGX2, tyX2_ok, nmX2, by decide, (lw_good_at w_351 rfl), Or.inl rfl, rfl, rfl, by decide⟩
theorem fl_X9_231_X2 : z_FLg "GraphNames" 231 2 4 3 := ⟨"GraphNames$Leaf", TX2, 5, tyX2, "GraphNames$Leaf", rfl, inGX2, tyX2_ok, nmX2, by decide, (lw_good_at w_352 rfl), Or.inl rfl, rfl, rfl, by decide⟩
theorem fl_X6_9_X6 : z_FLg "GraphNames$Search" 9 6 9 0 := ⟨"GraphNames$Search", TX6, 13, tyX6, "GraphNames$Search", rfl, inGX6, tyX6_ok, nmX6, by decide, (lw_good_at w_367 rfl), Or.inl rfl, rfl, rfl, by decide⟩
theorem fp_X6_9_X6 : z_FL "GraphNames$Search" 9 6 9 0 false := ⟨"GraphNames$Search", TX6, 13, tyX6, "GraphNames$Search", rfl, inGX6, tyX6_ok, nmX6, by decide, (lw_good_at w_367 rfl), Or.inl rfl, rfl, rfl, rfl, by decide, fun h => Bool.noConfusion h⟩
theorem fl_X9_218_X6 : z_FLg "GraphNames" 218 6 9 0 := ⟨"GraphNames$Search", TX6, 13, tyX6, "GraphNames$Search", rfl, inGX6, tyX6_ok, nmX6, by decide, (lw_good_at w_368 rfl), Or.inl rfl, rfl, rfl, by decide⟩
theorem fl_X6_15_X6 : z_FLg "GraphNames$Search" 15 6 10 0 := ⟨"GraphNames$Search", TX6, 13, tyX6, "GraphNames$Search", rfl, inGX6, tyX6_ok, nmX6, by decide, (lw_good_at w_369 rfl), Or.inl rfl, rfl, rfl, by decide⟩
theorem fp_X6_15_X6 : z_FL "GraphNames$Search" 15 6 10 0 false := ⟨"GraphNames$Search", TX6, 13, tyX6, "GraphNames$Search", rfl, inGX6, tyX6_ok, nmX6, by decide, (lw_good_at w_369 rfl), Or.inl rfl, rfl, rfl, rfl, by decide, fun h => Bool.noConfusion h⟩
theorem fl_X9_221_X6 : z_FLg "GraphNames" 221 6 10 0 := ⟨"GraphNames$Search", TX6, 13, tyX6, "GraphNames$Search", rfl, inGX6, tyX6_ok, nmX6, by decide, (lw_good_at w_370 rfl), Or.inl rfl, rfl, rfl, by decide⟩
theorem fl_X6_18_X6 : z_FLg "GraphNames$Search" 18 6 11 3 := ⟨"GraphNames$Search", TX6, 13, tyX6, "GraphNames$Search", rfl, inGX6, tyX6_ok, nmX6, by decide, (lw_good_at w_371 rfl), Or.inl rfl, rfl, rfl, by decide⟩
theorem fp_X6_18_X6 : z_FL "GraphNames$Search" 18 6 11 3 true := ⟨"GraphNames$Search", TX6, 13, tyX6, "GraphNames$Search", rfl, inGX6, tyX6_ok, nmX6, by decide, (lw_good_at w_371 rfl), Or.inl rfl, rfl, rfl, rfl, by decide, fun _ => rfl⟩
theorem fl_X9_238_X6 : z_FLg "GraphNames" 238 6 11 3 := ⟨"GraphNames$Search", TX6, 13, tyX6, "GraphNames$Search", rfl, inGX6, tyX6_ok, nmX6, by decide, (lw_good_at w_372 rfl), Or.inl rfl, rfl, rfl, by decide⟩
theorem fl_X6_25_X6 : z_FLg "GraphNames$Search" 25 6 12 3 := ⟨"GraphNames$Search", TX6, 13, tyX6, "GraphNames$Search", rfl, inGX6, tyX6_ok, nmX6, by decide, (lw_good_at w_373 rfl), Or.inl rfl, rfl, rfl, by decide⟩
theorem fp_X6_25_X6 : z_FL "GraphNames$Search" 25 6 12 3 true := ⟨"GraphNames$Search", TX6, 13, tyX6, "GraphNames$Search", rfl, inGX6, tyX6_ok, nmX6, by decide, (lw_good_at w_373 rfl), Or.inl rfl, rfl, rfl, rfl, by decide, fun _ => rfl⟩
theorem fl_X8_12_X6 : z_FLg "GraphNames$Walk" 12 6 0 3 := ⟨"GraphNames$Search", TX6, 13, tyX6, "GraphNames$Walk", rfl, inGX6, tyX6_ok, nmX6, by decide, (lw_good_at w_374 rfl), Or.inl rfl, rfl, rfl, by decide⟩
theorem fp_X8_12_X6 : z_FL "GraphNames$Walk" 12 6 0 3 true := ⟨"GraphNames$Search", TX6, 13, tyX6, "GraphNames$Walk", rfl, inGX6, tyX6_ok, nmX6, by decide, (lw_good_at w_374 rfl), Or.inl rfl, rfl, rfl, rfl, by decide, fun _ => rfl⟩
theorem fl_X8_12_X7 : z_FLg "GraphNames$Walk" 12 7 0 3 := ⟨"GraphNames$Tree", TX7, 11, tyX7, "GraphNames$Walk", rfl, inGX7, tyX7_ok, nmX7, by decide, (lw_good_at w_374 rfl), Or.inl rfl, rfl, rfl, by decide⟩
theorem fp_X8_12_X7 : z_FL "GraphNames$Walk" 12 7 0 3 true := ⟨"GraphNames$Tree", TX7, 11, tyX7, "GraphNames$Walk", rfl, inGX7, tyX7_ok, nmX7, by decide, (lw_good_at w_374 rfl), Or.inl rfl, rfl, rfl, rfl, by decide, fun _ => rfl⟩
theorem fl_X6_43_X6 : z_FLg "GraphNames$Search" 43 6 0 3 := ⟨"GraphNames$Search", TX6, 13, tyX6, "GraphNames$Search", rfl, inGX6, tyX6_ok, nmX6, by decide, (lw_good_at w_375 rfl), Or.inr (lw_good_at w_376 rfl), rfl, rfl, by decide⟩
theorem fl_X8_20_X6 : z_FLg "GraphNames$Walk" 20 6 1 3 := ⟨"GraphNames$Search", TX6, 13, tyX6, "GraphNames$Walk", rfl, inGX6, tyX6_ok, nmX6, by decide, (lw_good_at w_377 rfl), Or.inl rfl, rfl, rfl, by decide⟩
theorem fp_X8_20_X6 : z_FL "GraphNames$Walk" 20 6 1 3 true := ⟨"GraphNames$Search", TX6, 13, tyX6, "GraphNames$Walk", rfl, inGX6, tyX6_ok, nmX6, by decide, (lw_good_at w_377 rfl), Or.inl rfl, rfl, rfl, rfl, by decide, fun _ => rfl⟩
theorem fl_X8_20_X7 : z_FLg "GraphNames$Walk" 20 7 1 3 := ⟨"GraphNames$Tree", TX7, 11, tyX7, "GraphNames$Walk", rfl, inGX7, tyX7_ok, nmX7, by decide, (lw_good_at w_377 rfl), Or.inl rfl, rfl, rfl, by decide⟩
theorem fp_X8_20_X7 : z_FL "GraphNames$Walk" 20 7 1 3 true := ⟨"GraphNames$Tree", TX7, 11, tyX7, "GraphNames$Walk", rfl, inGX7, tyX7_ok, nmX7, by decide, (lw_good_at w_377 rfl), Or.inl rfl, rfl, rfl, rfl, by decide, fun _ => rfl⟩
theorem fl_X8_27_X6 : z_FLg "GraphNames$Walk" 27 6 2 3 := ⟨"GraphNames$Search", TX6, 13, tyX6, "GraphNames$Walk", rfl, inGX6, tyX6_ok, nmX6, by decide, (lw_good_at w_378 rfl), Or.inl rfl, rfl, rfl, by decide⟩
theorem fp_X8_27_X6 : z_FL "GraphNames$Walk" 27 6 2 3 true := ⟨"GraphNames$Search", TX6, 13, tyX6, "GraphNames$Walk", rfl, inGX6, tyX6_ok, nmX6, by decide, (lw_good_at w_378 rfl), Or.inl rfl, rfl, rfl, rfl, by decide, fun _ => rfl⟩
theorem fl_X8_27_X7 : z_FLg "GraphNames$Walk" 27 7 2 3 := ⟨"GraphNames$Tree", TX7, 11, tyX7, "GraphNames$Walk", rfl, inGX7, tyX7_ok, nmX7, by decide, (lw_good_at w_378 rfl), Or.inl rfl, rfl, rfl, by decide⟩
theorem fp_X8_27_X7 : z_FL "GraphNames$Walk" 27 7 2 3 true := ⟨"GraphNames$Tree", TX7, 11, tyX7, "GraphNames$Walk", rfl, inGX7, tyX7_ok, nmX7, by decide, (lw_good_at w_378 rfl), Or.inl rfl, rfl, rfl, rfl, by decide, fun _ => rfl⟩
theorem fl_X7_16_X7 : z_FLg "GraphNames$Tree" 16 7 2 3 := ⟨"GraphNames$Tree", TX7, 11, tyX7, "GraphNames$Tree", rfl, inGX7, tyX7_ok, nmX7, by decide, (lw_good_at w_379 rfl), Or.inr (lw_good_at w_380 rfl), rfl, rfl, by decide⟩
theorem fl_X6_58_X6 : z_FLg "GraphNames$Search" 58 6 2 3 := ⟨"GraphNames$Search", TX6, 13, tyX6, "GraphNames$Search", rfl, inGX6, tyX6_ok, nmX6, by decide, (lw_good_at w_381 rfl), Or.inr (lw_good_at w_382 rfl), rfl, rfl, by decide⟩
theorem fp_X8_31_X6 : z_FL "GraphNames$Walk" 31 6 3 3 true := ⟨"GraphNames$Search", TX6, 13, tyX6, "GraphNames$Walk", rfl, inGX6, tyX6_ok, nmX6, by decide, (lw_good_at w_383 rfl), Or.inl rfl, rfl, rfl, rfl, by decide, fun _ => rfl⟩
theorem fp_X8_31_X7 : z_FL "GraphNames$Walk" 31 7 3 3 true := ⟨"GraphNames$Tree", TX7, 11, tyX7, "GraphNames$Walk", rfl, inGX7, tyX7_ok, nmX7, by decide, (lw_good_at w_383 rfl), Or.inl rfl, rfl, rfl, rfl, by decide, fun _ => rfl⟩
theorem fl_X7_34_X7 : z_FLg "GraphNames$Tree" 34 7 3 3 := ⟨"GraphNames$Tree", TX7, 11, tyX7, "GraphNames$Tree", rfl, inGX7, tyX7_ok, nmX7, by decide, (lw_good_at w_384 rfl), Or.inr (lw_good_at w_385 rfl), rfl, rfl, by decide⟩
theorem fl_X6_64_X6 : z_FLg "GraphNames$Search" 64 6 3 3 := ⟨"GraphNames$Search", TX6, 13, tyX6, "GraphNames$Search", rfl, inGX6, tyX6_ok, nmX6, by decide, (lw_good_at w_386 rfl), Or.inr (lw_good_at w_387 rfl), rfl, rfl, by decide⟩
theorem fl_X9_196_X7 : z_FLg "GraphNames" 196 7 3 3 := ⟨"GraphNames$Tree", TX7, 11, tyX7, "GraphNames$Tree", rfl, inGX7, tyX7_ok, nmX7, by decide, (lw_good_at w_388 rfl), Or.inr (lw_good_at w_385 rfl), rfl, rfl, by decide⟩
theorem fl_X9_224_X6 : z_FLg "GraphNames" 224 6 3 3 := ⟨"GraphNames$Search", TX6, 13, tyX6, "GraphNames$Search", rfl, inGX6, tyX6_ok, nmX6, by decide, (lw_good_at w_389 rfl), Or.inr (lw_good_at w_387 rfl), rfl, rfl, by decide⟩
theorem fl_X8_34_X6 : z_FLg "GraphNames$Walk" 34 6 4 0 := ⟨"GraphNames$Search", TX6, 13, tyX6, "GraphNames$Walk", rfl, inGX6, tyX6_ok, nmX6, by decide, (lw_good_at w_390 rfl), Or.inl rfl, rfl, rfl, by decide⟩
theorem fp_X8_34_X6 : z_FL "GraphNames$Walk" 34 6 4 0 false := ⟨"GraphNames$Search", TX6, 13, tyX6, "GraphNames$Walk", rfl, inGX6, tyX6_ok, nmX6, by decide, (lw_good_at w_390 rfl), Or.inl rfl, rfl, rfl, rfl, by decide, fun h => Bool.noConfusion h⟩
theorem fl_X8_34_X7 : z_FLg "GraphNames$Walk" 34 7 4 0 := ⟨"GraphNames$Tree", TX7, 11, tyX7, "GraphNames$Walk", rfl, inGX7, tyX7_ok, nmX7, by decide, (lw_good_at w_390 rfl), Or.inl rfl, rfl, rfl, by decide⟩
theorem fp_X8_34_X7 : z_FL "GraphNames$Walk" 34 7 4 0 false := ⟨"GraphNames$Tree", TX7, 11, tyX7, "GraphNames$Walk", rfl, inGX7, tyX7_ok, nmX7, by decide, (lw_good_at w_390 rfl), Or.inl rfl, rfl, rfl, rfl, by decide, fun h => Bool.noConfusion h⟩
theorem fl_X9_187_X7 : z_FLg "GraphNames" 187 7 4 0 := ⟨"GraphNames$Tree", TX7, 11, tyX7, "GraphNames$Tree", rfl, inGX7, tyX7_ok, nmX7, by decide, (lw_good_at w_391 rfl), Or.inr (lw_good_at w_392 rfl), rfl, rfl, by decide⟩
theorem fl_X9_210_X6 : z_FLg "GraphNames" 210 6 4 0 := ⟨"GraphNames$Search", TX6, 13, tyX6, "GraphNames$Search", rfl, inGX6, tyX6_ok, nmX6, by decide, (lw_good_at w_393 rfl), Or.inr (lw_good_at w_394 rfl), rfl, rfl, by decide⟩
theorem fl_X8_38_X6 : z_FLg "GraphNames$Walk" 38 6 5 0 := ⟨"GraphNames$Search", TX6, 13, tyX6, "GraphNames$Walk", rfl, inGX6, tyX6_ok, nmX6, by decide, (lw_good_at w_395 rfl), Or.inl rfl, rfl, rfl, by decide⟩
theorem fp_X8_38_X6 : z_FL "GraphNames$Walk" 38 6 5 0 false := ⟨"GraphNames$Search", TX6, 13, tyX6, "GraphNames$Walk", rfl, inGX6, tyX6_ok, nmX6, by decide, (lw_good_at w_395 rfl), Or.inl rfl, rfl, rfl, rfl, by decide, fun h => Bool.noConfusion h⟩
theorem fl_X8_38_X7 : z_FLg "GraphNames$Walk" 38 7 5 0 := ⟨"GraphNames$Tree", TX7, 11, tyX7, "GraphNames$Walk", rfl, inGX7, tyX7_ok, nmX7, by decide, (lw_good_at w_395 rfl), Or.inl rfl, rfl, rfl, by decide⟩
theorem fp_X8_38_X7 : z_FL "GraphNames$Walk" 38 7 5 0 false := ⟨"GraphNames$Tree", TX7, 11, tyX7, "GraphNames$Walk", rfl, inGX7, tyX7_ok, nmX7, by decide, (lw_good_at w_395 rfl), Or.inl rfl, rfl, rfl, rfl, by decide, fun h => Bool.noConfusion h⟩
theorem fl_X7_31_X7 : z_FLg "GraphNames$Tree" 31 7 5 0 := ⟨"GraphNames$Tree", TX7, 11, tyX7, "GraphNames$Tree", rfl, inGX7, tyX7_ok, nmX7, by decide, (lw_good_at w_396 rfl), Or.inr (lw_good_at w_397 rfl), rfl, rfl, by decide⟩
theorem fl_X6_55_X6 : z_FLg "GraphNames$Search" 55 6 5 0 := ⟨"GraphNames$Search", TX6, 13, tyX6, "GraphNames$Search", rfl, inGX6, tyX6_ok, nmX6, by decide, (lw_good_at w_398 rfl), Or.inr (lw_good_at w_399 rfl), rfl, rfl, by decide⟩
theorem fl_X9_190_X7 : z_FLg "GraphNames" 190 7 5 0 := ⟨"GraphNames$Tree", TX7, 11, tyX7, "GraphNames$Tree", rfl, inGX7, tyX7_ok, nmX7, by decide, (lw_good_at w_400 rfl), Or.inr (lw_good_at w_397 rfl), rfl, rfl, by decide⟩
theorem fl_X9_211_X6 : z_FLg "GraphNames" 211 6 5 0 := ⟨"GraphNames$Search", TX6, 13, tyX6, "GraphNames$Search", rfl, inGX6, tyX6_ok, nmX6, by decide, (lw_good_at w_401 rfl), Or.inr (lw_good_at w_399 rfl), rfl, rfl, by decide⟩
theorem fl_X8_41_X6 : z_FLg "GraphNames$Walk" 41 6 6 0 := ⟨"GraphNames$Search", TX6, 13, tyX6, "GraphNames$Walk", rfl, inGX6, tyX6_ok, nmX6, by decide, (lw_good_at w_402 rfl), Or.inl rfl, rfl, rfl, by decide⟩
theorem fp_X8_41_X6 : z_FL "GraphNames$Walk" 41 6 6 0 false := ⟨"GraphNames$Search", TX6, 13, tyX6, "GraphNames$Walk", rfl, inGX6, tyX6_ok, nmX6, by decide, (lw_good_at w_402 rfl), Or.inl rfl, rfl, rfl, rfl, by decide, fun h => Bool.noConfusion h⟩
theorem fl_X8_41_X7 : z_FLg "GraphNames$Walk" 41 7 6 0 := ⟨"GraphNames$Tree", TX7, 11, tyX7, "GraphNames$Walk", rfl, inGX7, tyX7_ok, nmX7, by decide, (lw_good_at w_402 rfl), Or.inl rfl, rfl, rfl, by decide⟩
theorem fp_X8_41_X7 : z_FL "GraphNames$Walk" 41 7 6 0 false := ⟨"GraphNames$Tree", TX7, 11, tyX7, "GraphNames$Walk", rfl, inGX7, tyX7_ok, nmX7, by decide, (lw_good_at w_402 rfl), Or.inl rfl, rfl, rfl, rfl, by decide, fun h => Bool.noConfusion h⟩
theorem fl_X9_212_X6 : z_FLg "GraphNames" 212 6 6 0 := ⟨"GraphNames$Search", TX6, 13, tyX6, "GraphNames$Search", rfl, inGX6, tyX6_ok, nmX6, by decide, (lw_good_at w_403 rfl), Or.inr (lw_good_at w_404 rfl), rfl, rfl, by decide⟩
theorem fl_X8_44_X6 : z_FLg "GraphNames$Walk" 44 6 7 0 := ⟨"GraphNames$Search", TX6, 13, tyX6, "GraphNames$Walk", rfl, inGX6, tyX6_ok, nmX6, by decide, (lw_good_at w_405 rfl), Or.inl rfl, rfl, rfl, by decide⟩
theorem fp_X8_44_X6 : z_FL "GraphNames$Walk" 44 6 7 0 false := ⟨"GraphNames$Search", TX6, 13, tyX6, "GraphNames$Walk", rfl, inGX6, tyX6_ok, nmX6, by decide, (lw_good_at w_405 rfl), Or.inl rfl, rfl, rfl, rfl, by decide, fun h => Bool.noConfusion h⟩
theorem fl_X8_44_X7 : z_FLg "GraphNames$Walk" 44 7 7 0 := ⟨"GraphNames$Tree", TX7, 11, tyX7, "GraphNames$Walk", rfl, inGX7, tyX7_ok, nmX7, by decide, (lw_good_at w_405 rfl), Or.inl rfl, rfl, rfl, by decide⟩
theorem fp_X8_44_X7 : z_FL "GraphNames$Walk" 44 7 7 0 false := ⟨"GraphNames$Tree", TX7, 11, tyX7, "GraphNames$Walk", rfl, inGX7, tyX7_ok, nmX7, by decide, (lw_good_at w_405 rfl), Or.inl rfl, rfl, rfl, rfl, by decide, fun h => Bool.noConfusion h⟩
theorem fl_X9_215_X6 : z_FLg "GraphNames" 215 6 7 0 := ⟨"GraphNames$Search", TX6, 13, tyX6, "GraphNames$Search", rfl, inGX6, tyX6_ok, nmX6, by decide, (lw_good_at w_406 rfl), Or.inr (lw_good_at w_407 rfl), rfl, rfl, by decide⟩
theorem fl_X8_47_X6 : z_FLg "GraphNames$Walk" 47 6 8 1 := ⟨"GraphNames$Search", TX6, 13, tyX6, "GraphNames$Walk", rfl, inGX6, tyX6_ok, nmX6, by decide, (lw_good_at w_408 rfl), Or.inl rfl, rfl, rfl, by decide⟩
theorem fp_X8_47_X6 : z_FL "GraphNames$Walk" 47 6 8 1 false := ⟨"GraphNames$Search", TX6, 13, tyX6, "GraphNames$Walk", rfl, inGX6, tyX6_ok, nmX6, by decide, (lw_good_at w_408 rfl), Or.inl rfl, rfl, rfl, rfl, by decide, fun h => Bool.noConfusion h⟩
theorem fl_X8_47_X7 : z_FLg "GraphNames$Walk" 47 7 8 1 := ⟨"GraphNames$Tree", TX7, 11, tyX7, "GraphNames$Walk", rfl, inGX7, tyX7_ok, nmX7, by decide, (lw_good_at w_408 rfl), Or.inl rfl, rfl, rfl, by decide⟩
theorem fp_X8_47_X7 : z_FL "GraphNames$Walk" 47 7 8 1 false := ⟨"GraphNames$Tree", TX7, 11, tyX7, "GraphNames$Walk", rfl, inGX7, tyX7_ok, nmX7, by decide, (lw_good_at w_408 rfl), Or.inl rfl, rfl, rfl, rfl, by decide, fun h => Bool.noConfusion h⟩
theorem fl_X7_7_X7 : z_FLg "GraphNames$Tree" 7 7 9 0 := ⟨"GraphNames$Tree", TX7, 11, tyX7, "GraphNames$Tree", rfl, inGX7, tyX7_ok, nmX7, by decide, (lw_good_at w_443 rfl), Or.inl rfl, rfl, rfl, by decide⟩
theorem fp_X7_7_X7 : z_FL "GraphNames$Tree" 7 7 9 0 false := ⟨"GraphNames$Tree", TX7, 11, tyX7, "GraphNames$Tree", rfl, inGX7, tyX7_ok, nmX7, by decide, (lw_good_at w_443 rfl), Or.inl rfl, rfl, rfl, rfl, by decide, fun h => Bool.noConfusion h⟩
theorem fl_X9_193_X7 : z_FLg "GraphNames" 193 7 9 0 := ⟨"GraphNames$Tree", TX7, 11, tyX7, "GraphNames$Tree", rfl, inGX7, tyX7_ok, nmX7, by decide, (lw_good_at w_444 rfl), Or.inl rfl, rfl, rfl, by decide⟩
theorem fl_X7_13_X7 : z_FLg "GraphNames$Tree" 13 7 10 0 := ⟨"GraphNames$Tree", TX7, 11, tyX7, "GraphNames$Tree", rfl, inGX7, tyX7_ok, nmX7, by decide, (lw_good_at w_445 rfl), Or.inl rfl, rfl, rfl, by decide⟩
theorem fp_X7_13_X7 : z_FL "GraphNames$Tree" 13 7 10 0 false := ⟨"GraphNames$Tree", TX7, 11, tyX7, "GraphNames$Tree", rfl, inGX7, tyX7_ok, nmX7, by decide, (lw_good_at w_445 rfl), Or.inl rfl, rfl, rfl, rfl, by decide, fun h => Bool.noConfusion h⟩
theorem fl_X9_203_X7 : z_FLg "GraphNames" 203 7 10 0 := ⟨"GraphNames$Tree", TX7, 11, tyX7, "GraphNames$Tree", rfl, inGX7, tyX7_ok, nmX7, by decide, (lw_good_at w_446 rfl), Or.inl rfl, rfl, rfl, by decide⟩
theorem fl_X9_11_X9 : z_FLg "GraphNames" 11 8 0 3 := ⟨"GraphNames", TX9, 14, tyX9, "GraphNames", rfl, inGX9, tyX9_ok, nmX9, by decide, (lw_good_at w_462 rfl), Or.inl rfl, rfl, rfl, by decide⟩
theorem fp_X9_11_X9 : z_FL "GraphNames" 11 8 0 3 true := ⟨"GraphNames", TX9, 14, tyX9, "GraphNames", rfl, inGX9, tyX9_ok, nmX9, by decide, (lw_good_at w_462 rfl), Or.inl rfl, rfl, rfl, rfl, by decide, fun _ => rfl⟩
theorem fl_X9_17_X9 : z_FLg "GraphNames" 17 8 1 3 := ⟨"GraphNames", TX9, 14, tyX9, "GraphNames", rfl, inGX9, tyX9_ok, nmX9, by decide, (lw_good_at w_463 rfl), Or.inl rfl, rfl, rfl, by decide⟩
theorem fp_X9_17_X9 : z_FL "GraphNames" 17 8 1 3 true := ⟨"GraphNames", TX9, 14, tyX9, "GraphNames", rfl, inGX9, tyX9_ok, nmX9, by decide, (lw_good_at w_463 rfl), Or.inl rfl, rfl, rfl, rfl, by decide, fun _ => rfl⟩
theorem fl_X9_23_X9 : z_FLg "GraphNames" 23 8 2 3 := ⟨"GraphNames", TX9, 14, tyX9, "GraphNames", rfl, inGX9, tyX9_ok, nmX9, by decide, (lw_good_at w_464 rfl), Or.inl rfl, rfl, rfl, by decide⟩
theorem fp_X9_23_X9 : z_FL "GraphNames" 23 8 2 3 true := ⟨"GraphNames", TX9, 14, tyX9, "GraphNames", rfl, inGX9, tyX9_ok, nmX9, by decide, (lw_good_at w_464 rfl), Or.inl rfl, rfl, rfl, rfl, by decide, fun _ => rfl⟩
theorem fl_X9_30_X9 : z_FLg "GraphNames" 30 8 3 3 := ⟨"GraphNames", TX9, 14, tyX9, "GraphNames", rfl, inGX9, tyX9_ok, nmX9, by decide, (lw_good_at w_465 rfl), Or.inl rfl, rfl, rfl, by decide⟩
theorem fp_X9_30_X9 : z_FL "GraphNames" 30 8 3 3 true := ⟨"GraphNames", TX9, 14, tyX9, "GraphNames", rfl, inGX9, tyX9_ok, nmX9, by decide, (lw_good_at w_465 rfl), Or.inl rfl, rfl, rfl, rfl, by decide, fun _ => rfl⟩
theorem fl_X9_37_X9 : z_FLg "GraphNames" 37 8 4 3 := ⟨"GraphNames", TX9, 14, tyX9, "GraphNames", rfl, inGX9, tyX9_ok, nmX9, by decide, (lw_good_at w_466 rfl), Or.inl rfl, rfl, rfl, by decide⟩
theorem fp_X9_37_X9 : z_FL "GraphNames" 37 8 4 3 true := ⟨"GraphNames", TX9, 14, tyX9, "GraphNames", rfl, inGX9, tyX9_ok, nmX9, by decide, (lw_good_at w_466 rfl), Or.inl rfl, rfl, rfl, rfl, by decide, fun _ => rfl⟩
theorem fl_X9_41_X9 : z_FLg "GraphNames" 41 8 5 3 := ⟨"GraphNames", TX9, 14, tyX9, "GraphNames", rfl, inGX9, tyX9_ok, nmX9, by decide, (lw_good_at w_467 rfl), Or.inl rfl, rfl, rfl, by decide⟩
theorem fp_X9_41_X9 : z_FL "GraphNames" 41 8 5 3 true := ⟨"GraphNames", TX9, 14, tyX9, "GraphNames", rfl, inGX9, tyX9_ok, nmX9, by decide, (lw_good_at w_467 rfl), Or.inl rfl, rfl, rfl, rfl, by decide, fun _ => rfl⟩
theorem fl_X9_44_X9 : z_FLg "GraphNames" 44 8 6 3 := ⟨"GraphNames", TX9, 14, tyX9, "GraphNames", rfl, inGX9, tyX9_ok, nmX9, by decide, (lw_good_at w_468 rfl), Or.inl rfl, rfl, rfl, by decide⟩
theorem fp_X9_44_X9 : z_FL "GraphNames" 44 8 6 3 true := ⟨"GraphNames", TX9, 14, tyX9, "GraphNames", rfl, inGX9, tyX9_ok, nmX9, by decide, (lw_good_at w_468 rfl), Or.inl rfl, rfl, rfl, rfl, by decide, fun _ => rfl⟩
theorem fl_X9_51_X9 : z_FLg "GraphNames" 51 8 7 3 := ⟨"GraphNames", TX9, 14, tyX9, "GraphNames", rfl, inGX9, tyX9_ok, nmX9, by decide, (lw_good_at w_469 rfl), Or.inl rfl, rfl, rfl, by decide⟩
theorem fp_X9_51_X9 : z_FL "GraphNames" 51 8 7 3 true := ⟨"GraphNames", TX9, 14, tyX9, "GraphNames", rfl, inGX9, tyX9_ok, nmX9, by decide, (lw_good_at w_469 rfl), Or.inl rfl, rfl, rfl, rfl, by decide, fun _ => rfl⟩
theorem fl_X9_55_X9 : z_FLg "GraphNames" 55 8 8 3 := ⟨"GraphNames", TX9, 14, tyX9, "GraphNames", rfl, inGX9, tyX9_ok, nmX9, by decide, (lw_good_at w_470 rfl), Or.inl rfl, rfl, rfl, by decide⟩
theorem fp_X9_55_X9 : z_FL "GraphNames" 55 8 8 3 true := ⟨"GraphNames", TX9, 14, tyX9, "GraphNames", rfl, inGX9, tyX9_ok, nmX9, by decide, (lw_good_at w_470 rfl), Or.inl rfl, rfl, rfl, rfl, by decide, fun _ => rfl⟩
theorem fl_X9_61_X9 : z_FLg "GraphNames" 61 8 9 3 := ⟨"GraphNames", TX9, 14, tyX9, "GraphNames", rfl, inGX9, tyX9_ok, nmX9, by decide, (lw_good_at w_471 rfl), Or.inl rfl, rfl, rfl, by decide⟩
theorem fp_X9_61_X9 : z_FL "GraphNames" 61 8 9 3 true := ⟨"GraphNames", TX9, 14, tyX9, "GraphNames", rfl, inGX9, tyX9_ok, nmX9, by decide, (lw_good_at w_471 rfl), Or.inl rfl, rfl, rfl, rfl, by decide, fun _ => rfl⟩
theorem fl_X9_66_X9 : z_FLg "GraphNames" 66 8 10 3 := ⟨"GraphNames", TX9, 14, tyX9, "GraphNames", rfl, inGX9, tyX9_ok, nmX9, by decide, (lw_good_at w_472 rfl), Or.inl rfl, rfl, rfl, by decide⟩
theorem fp_X9_66_X9 : z_FL "GraphNames" 66 8 10 3 true := ⟨"GraphNames", TX9, 14, tyX9, "GraphNames", rfl, inGX9, tyX9_ok, nmX9, by decide, (lw_good_at w_472 rfl), Or.inl rfl, rfl, rfl, rfl, by decide, fun _ => rfl⟩
theorem fl_X9_71_X9 : z_FLg "GraphNames" 71 8 11 3 := ⟨"GraphNames", TX9, 14, tyX9, "GraphNames", rfl, inGX9, tyX9_ok, nmX9, by decide, (lw_good_at w_473 rfl), Or.inl rfl, rfl, rfl, by decide⟩
theorem fp_X9_71_X9 : z_FL "GraphNames" 71 8 11 3 true := ⟨"GraphNames", TX9, 14, tyX9, "GraphNames", rfl, inGX9, tyX9_ok, nmX9, by decide, (lw_good_at w_473 rfl), Or.inl rfl, rfl, rfl, rfl, by decide, fun _ => rfl⟩
theorem fl_X9_77_X9 : z_FLg "GraphNames" 77 8 12 3 := ⟨"GraphNames", TX9, 14, tyX9, "GraphNames", rfl, inGX9, tyX9_ok, nmX9, by decide, (lw_good_at w_474 rfl), Or.inl rfl, rfl, rfl, by decide⟩
theorem fp_X9_77_X9 : z_FL "GraphNames" 77 8 12 3 true := ⟨"GraphNames", TX9, 14, tyX9, "GraphNames", rfl, inGX9, tyX9_ok, nmX9, by decide, (lw_good_at w_474 rfl), Or.inl rfl, rfl, rfl, rfl, by decide, fun _ => rfl⟩
theorem fl_X9_81_X9 : z_FLg "GraphNames" 81 8 13 0 := ⟨"GraphNames", TX9, 14, tyX9, "GraphNames", rfl, inGX9, tyX9_ok, nmX9, by decide, (lw_good_at w_475 rfl), Or.inl rfl, rfl, rfl, by decide⟩
theorem fp_X9_81_X9 : z_FL "GraphNames" 81 8 13 0 false := ⟨"GraphNames", TX9, 14, tyX9, "GraphNames", rfl, inGX9, tyX9_ok, nmX9, by decide, (lw_good_at w_475 rfl), Or.inl rfl, rfl, rfl, rfl, by decide, fun h => Bool.noConfusion h⟩
theorem fl_X10_105_X10 : z_FLg "GraphNamesModel" 105 9 0 0 := ⟨"GraphNamesModel", TX10, 63, tyX10, "GraphNamesModel", rfl, inGX10, tyX10_ok, nmX10, by decide, (lw_good_at w_1184 rfl), Or.inl rfl, rfl, rfl, by decide⟩
theorem fp_X10_105_X10 : z_FL "GraphNamesModel" 105 9 0 0 false := ⟨"GraphNamesModel", TX10, 63, tyX10, "GraphNamesModel", rfl, inGX10, tyX10_ok, nmX10, by decide, (lw_good_at w_1184 rfl), Or.inl rfl, rfl, rfl, rfl, by decide, fun h => Bool.noConfusion h⟩
theorem fl_X10_108_X10 : z_FLg "GraphNamesModel" 108 9 1 0 := ⟨"GraphNamesModel", TX10, 63, tyX10, "GraphNamesModel", rfl, inGX10, tyX10_ok, nmX10, by decide, (lw_good_at w_1185 rfl), Or.inl rfl, rfl, rfl, by decide⟩
theorem fp_X10_108_X10 : z_FL "GraphNamesModel" 108 9 1 0 false := ⟨"GraphNamesModel", TX10, 63, tyX10, "GraphNamesModel", rfl, inGX10, tyX10_ok, nmX10, by decide, (lw_good_at w_1185 rfl), Or.inl rfl, rfl, rfl, rfl, by decide, fun h => Bool.noConfusion h⟩
theorem fl_X10_9_X10 : z_FLg "GraphNamesModel" 9 9 2 0 := ⟨"GraphNamesModel", TX10, 63, tyX10, "GraphNamesModel", rfl, inGX10, tyX10_ok, nmX10, by decide, (lw_good_at w_1186 rfl), Or.inl rfl, rfl, rfl, by decide⟩
theorem fp_X10_9_X10 : z_FL "GraphNamesModel" 9 9 2 0 false := ⟨"GraphNamesModel", TX10, 63, tyX10, "GraphNamesModel", rfl, inGX10, tyX10_ok, nmX10, by decide, (lw_good_at w_1186 rfl), Or.inl rfl, rfl, rfl, rfl, by decide, fun h => Bool.noConfusion h⟩
theorem fl_X10_114_X10 : z_FLg "GraphNamesModel" 114 9 3 0 := ⟨"GraphNamesModel", TX10, 63, tyX10, "GraphNamesModel", rfl, inGX10, tyX10_ok, nmX10, by decide, (lw_good_at w_1187 rfl), Or.inl rfl, rfl, rfl, by decide⟩
theorem fp_X10_114_X10 : z_FL "GraphNamesModel" 114 9 3 0 false := ⟨"GraphNamesModel", TX10, 63, tyX10, "GraphNamesModel", rfl, inGX10, tyX10_ok, nmX10, by decide, (lw_good_at w_1187 rfl), Or.inl rfl, rfl, rfl, rfl, by decide, fun h => Bool.noConfusion h⟩
theorem fl_X10_13_X10 : z_FLg "GraphNamesModel" 13 9 4 3 := ⟨"GraphNamesModel", TX10, 63, tyX10, "GraphNamesModel", rfl, inGX10, tyX10_ok, nmX10, by decide, (lw_good_at w_1188 rfl), Or.inl rfl, rfl, rfl, by decide⟩
theorem fp_X10_13_X10 : z_FL "GraphNamesModel" 13 9 4 3 true := ⟨"GraphNamesModel", TX10, 63, tyX10, "GraphNamesModel", rfl, inGX10, tyX10_ok, nmX10, by decide, (lw_good_at w_1188 rfl), Or.inl rfl, rfl, rfl, rfl, by decide, fun _ => rfl⟩
theorem fl_X10_17_X10 : z_FLg "GraphNamesModel" 17 9 5 3 := ⟨"GraphNamesModel", TX10, 63, tyX10, "GraphNamesModel", rfl, inGX10, tyX10_ok, nmX10, by decide, (lw_good_at w_1189 rfl), Or.inl rfl, rfl, rfl, by decide⟩
theorem fp_X10_17_X10 : z_FL "GraphNamesModel" 17 9 5 3 true := ⟨"GraphNamesModel", TX10, 63, tyX10, "GraphNamesModel", rfl, inGX10, tyX10_ok, nmX10, by decide, (lw_good_at w_1189 rfl), Or.inl rfl, rfl, rfl, rfl, by decide, fun _ => rfl⟩
theorem fl_X10_457_X10 : z_FLg "GraphNamesModel" 457 9 6 0 := ⟨"GraphNamesModel", TX10, 63, tyX10, "GraphNamesModel", rfl, inGX10, tyX10_ok, nmX10, by decide, (lw_good_at w_1190 rfl), Or.inl rfl, rfl, rfl, by decide⟩
theorem fp_X10_457_X10 : z_FL "GraphNamesModel" 457 9 6 0 false := ⟨"GraphNamesModel", TX10, 63, tyX10, "GraphNamesModel", rfl, inGX10, tyX10_ok, nmX10, by decide, (lw_good_at w_1190 rfl), Or.inl rfl, rfl, rfl, rfl, by decide, fun h => Bool.noConfusion h⟩
theorem fl_X10_20_X10 : z_FLg "GraphNamesModel" 20 9 7 3 := ⟨"GraphNamesModel", TX10, 63, tyX10, "GraphNamesModel", rfl, inGX10, tyX10_ok, nmX10, by decide, (lw_good_at w_1191 rfl), Or.inl rfl, rfl, rfl, by decide⟩
theorem fp_X10_20_X10 : z_FL "GraphNamesModel" 20 9 7 3 true := ⟨"GraphNamesModel", TX10, 63, tyX10, "GraphNamesModel", rfl, inGX10, tyX10_ok, nmX10, by decide, (lw_good_at w_1191 rfl), Or.inl rfl, rfl, rfl, rfl, by decide, fun _ => rfl⟩
theorem fl_X10_23_X10 : z_FLg "GraphNamesModel" 23 9 8 3 := ⟨"GraphNamesModel", TX10, 63, tyX10, "GraphNamesModel", rfl, inGX10, tyX10_ok, nmX10, by decide, (lw_good_at w_1192 rfl), Or.inl rfl, rfl, rfl, by decide⟩
theorem fp_X10_23_X10 : z_FL "GraphNamesModel" 23 9 8 3 true := ⟨"GraphNamesModel", TX10, 63, tyX10, "GraphNamesModel", rfl, inGX10, tyX10_ok, nmX10, by decide, (lw_good_at w_1192 rfl), Or.inl rfl, rfl, rfl, rfl, by decide, fun _ => rfl⟩
theorem fl_X10_27_X10 : z_FLg "GraphNamesModel" 27 9 9 3 := ⟨"GraphNamesModel", TX10, 63, tyX10, "GraphNamesModel", rfl, inGX10, tyX10_ok, nmX10, by decide, (lw_good_at w_1193 rfl), Or.inl rfl, rfl, rfl, by decide⟩
theorem fp_X10_27_X10 : z_FL "GraphNamesModel" 27 9 9 3 true := ⟨"GraphNamesModel", TX10, 63, tyX10, "GraphNamesModel", rfl, inGX10, tyX10_ok, nmX10, by decide, (lw_good_at w_1193 rfl), Or.inl rfl, rfl, rfl, rfl, by decide, fun _ => rfl⟩
theorem fl_X10_111_X10 : z_FLg "GraphNamesModel" 111 9 10 0 := ⟨"GraphNamesModel", TX10, 63, tyX10, "GraphNamesModel", rfl, inGX10, tyX10_ok, nmX10, by decide, (lw_good_at w_1194 rfl), Or.inl rfl, rfl, rfl, by decide⟩
theorem fp_X10_111_X10 : z_FL "GraphNamesModel" 111 9 10 0 false := ⟨"GraphNamesModel", TX10, 63, tyX10, "GraphNamesModel", rfl, inGX10, tyX10_ok, nmX10, by decide, (lw_good_at w_1194 rfl), Or.inl rfl, rfl, rfl, rfl, by decide, fun h => Bool.noConfusion h⟩
theorem fl_X10_117_X10 : z_FLg "GraphNamesModel" 117 9 11 0 := ⟨"GraphNamesModel", TX10, 63, tyX10, "GraphNamesModel", rfl, inGX10, tyX10_ok, nmX10, by decide, (lw_good_at w_1195 rfl), Or.inl rfl, rfl, rfl, by decide⟩
theorem fp_X10_117_X10 : z_FL "GraphNamesModel" 117 9 11 0 false := ⟨"GraphNamesModel", TX10, 63, tyX10, "GraphNamesModel", rfl, inGX10, tyX10_ok, nmX10, by decide, (lw_good_at w_1195 rfl), Or.inl rfl, rfl, rfl, rfl, by decide, fun h => Bool.noConfusion h⟩
theorem fl_X10_120_X10 : z_FLg "GraphNamesModel" 120 9 12 0 := ⟨"GraphNamesModel", TX10, 63, tyX10, "GraphNamesModel", rfl, inGX10, tyX10_ok, nmX10, by decide, (lw_good_at w_1196 rfl), Or.inl rfl, rfl, rfl, by decide⟩
theorem fp_X10_120_X10 : z_FL "GraphNamesModel" 120 9 12 0 false := ⟨"GraphNamesModel", TX10, 63, tyX10, "GraphNamesModel", rfl, inGX10, tyX10_ok, nmX10, by decide, (lw_good_at w_1196 rfl), Or.inl rfl, rfl, rfl, rfl, by decide, fun h => Bool.noConfusion h⟩
theorem fl_X10_127_X10 : z_FLg "GraphNamesModel" 127 9 13 0 := ⟨"GraphNamesModel", TX10, 63, tyX10, "GraphNamesModel", rfl, inGX10, tyX10_ok, nmX10, by decide, (lw_good_at w_1197 rfl), Or.inl rfl, rfl, rfl, by decide⟩
theorem fp_X10_127_X10 : z_FL "GraphNamesModel" 127 9 13 0 false := ⟨"GraphNamesModel", TX10, 63, tyX10, "GraphNamesModel", rfl, inGX10, tyX10_ok, nmX10, by decide, (lw_good_at w_1197 rfl), Or.inl rfl, rfl, rfl, rfl, by decide, fun h => Bool.noConfusion h⟩
theorem fl_X10_130_X10 : z_FLg "GraphNamesModel" 130 9 14 0 := ⟨"GraphNamesModel", TX10, 63, tyX10, "GraphNamesModel", rfl, inGX10, tyX10_ok, nmX10, by decide, (lw_good_at w_1198 rfl), Or.inl rfl, rfl, rfl, by decide⟩
theorem fp_X10_130_X10 : z_FL "GraphNamesModel" 130 9 14 0 false := ⟨"GraphNamesModel", TX10, 63, tyX10, "GraphNamesModel", rfl, inGX10, tyX10_ok, nmX10, by decide, (lw_good_at w_1198 rfl), Or.inl rfl, rfl, rfl, rfl, by decide, fun h => Bool.noConfusion h⟩
theorem fl_X10_137_X10 : z_FLg "GraphNamesModel" 137 9 15 0 := ⟨"GraphNamesModel", TX10, 63, tyX10, "GraphNamesModel", rfl, inGX10, tyX10_ok, nmX10, by decide, (lw_good_at w_1199 rfl), Or.inl rfl, rfl, rfl, by decide⟩
theorem fp_X10_137_X10 : z_FL "GraphNamesModel" 137 9 15 0 false := ⟨"GraphNamesModel", TX10, 63, tyX10, "GraphNamesModel", rfl, inGX10, tyX10_ok, nmX10, by decide, (lw_good_at w_1199 rfl), Or.inl rfl, rfl, rfl, rfl, by decide, fun h => Bool.noConfusion h⟩
theorem fl_X10_140_X10 : z_FLg "GraphNamesModel" 140 9 16 0 := ⟨"GraphNamesModel", TX10, 63, tyX10, "GraphNamesModel", rfl, inGX10, tyX10_ok, nmX10, by decide, (lw_good_at w_1200 rfl), Or.inl rfl, rfl, rfl, by decide⟩
theorem fp_X10_140_X10 : z_FL "GraphNamesModel" 140 9 16 0 false := ⟨"GraphNamesModel", TX10, 63, tyX10, "GraphNamesModel", rfl, inGX10, tyX10_ok, nmX10, by decide, (lw_good_at w_1200 rfl), Or.inl rfl, rfl, rfl, rfl, by decide, fun h => Bool.noConfusion h⟩
theorem fl_X10_143_X10 : z_FLg "GraphNamesModel" 143 9 17 0 := ⟨"GraphNamesModel", TX10, 63, tyX10, "GraphNamesModel", rfl, inGX10, tyX10_ok, nmX10, by decide, (lw_good_at w_1201 rfl), Or.inl rfl, rfl, rfl, by decide⟩
theorem fp_X10_143_X10 : z_FL "GraphNamesModel" 143 9 17 0 false := ⟨"GraphNamesModel", TX10, 63, tyX10, "GraphNamesModel", rfl, inGX10, tyX10_ok, nmX10, by decide, (lw_good_at w_1201 rfl), Or.inl rfl, rfl, rfl, rfl, by decide, fun h => Bool.noConfusion h⟩
theorem fl_X10_146_X10 : z_FLg "GraphNamesModel" 146 9 18 0 := ⟨"GraphNamesModel", TX10, 63, tyX10, "GraphNamesModel", rfl, inGX10, tyX10_ok, nmX10, by decide, (lw_good_at w_1202 rfl), Or.inl rfl, rfl, rfl, by decide⟩
theorem fp_X10_146_X10 : z_FL "GraphNamesModel" 146 9 18 0 false := ⟨"GraphNamesModel", TX10, 63, tyX10, "GraphNamesModel", rfl, inGX10, tyX10_ok, nmX10, by decide, (lw_good_at w_1202 rfl), Or.inl rfl, rfl, rfl, rfl, by decide, fun h => Bool.noConfusion h⟩
theorem fl_X10_30_X10 : z_FLg "GraphNamesModel" 30 9 19 3 := ⟨"GraphNamesModel", TX10, 63, tyX10, "GraphNamesModel", rfl, inGX10, tyX10_ok, nmX10, by decide, (lw_good_at w_1203 rfl), Or.inl rfl, rfl, rfl, by decide⟩
theorem fp_X10_30_X10 : z_FL "GraphNamesModel" 30 9 19 3 true := ⟨"GraphNamesModel", TX10, 63, tyX10, "GraphNamesModel", rfl, inGX10, tyX10_ok, nmX10, by decide, (lw_good_at w_1203 rfl), Or.inl rfl, rfl, rfl, rfl, by decide, fun _ => rfl⟩
theorem fl_X10_179_X10 : z_FLg "GraphNamesModel" 179 9 20 0 := ⟨"GraphNamesModel", TX10, 63, tyX10, "GraphNamesModel", rfl, inGX10, tyX10_ok, nmX10, by decide, (lw_good_at w_1204 rfl), Or.inl rfl, rfl, rfl, by decide⟩
theorem fp_X10_179_X10 : z_FL "GraphNamesModel" 179 9 20 0 false := ⟨"GraphNamesModel", TX10, 63, tyX10, "GraphNamesModel", rfl, inGX10, tyX10_ok, nmX10, by decide, (lw_good_at w_1204 rfl), Or.inl rfl, rfl, rfl, rfl, by decide, fun h => Bool.noConfusion h⟩
theorem fl_X10_256_X10 : z_FLg "GraphNamesModel" 256 9 21 0 := ⟨"GraphNamesModel", TX10, 63, tyX10, "GraphNamesModel", rfl, inGX10, tyX10_ok, nmX10, by decide, (lw_good_at w_1205 rfl), Or.inl rfl, rfl, rfl, by decide⟩
theorem fp_X10_256_X10 : z_FL "GraphNamesModel" 256 9 21 0 false := ⟨"GraphNamesModel", TX10, 63, tyX10, "GraphNamesModel", rfl, inGX10, tyX10_ok, nmX10, by decide, (lw_good_at w_1205 rfl), Or.inl rfl, rfl, rfl, rfl, by decide, fun h => Bool.noConfusion h⟩
theorem fl_X10_33_X10 : z_FLg "GraphNamesModel" 33 9 22 3 := ⟨"GraphNamesModel", TX10, 63, tyX10, "GraphNamesModel", rfl, inGX10, tyX10_ok, nmX10, by decide, (lw_good_at w_1206 rfl), Or.inl rfl, rfl, rfl, by decide⟩
theorem fp_X10_33_X10 : z_FL "GraphNamesModel" 33 9 22 3 true := ⟨"GraphNamesModel", TX10, 63, tyX10, "GraphNamesModel", rfl, inGX10, tyX10_ok, nmX10, by decide, (lw_good_at w_1206 rfl), Or.inl rfl, rfl, rfl, rfl, by decide, fun _ => rfl⟩
theorem fl_X10_36_X10 : z_FLg "GraphNamesModel" 36 9 23 3 := ⟨"GraphNamesModel", TX10, 63, tyX10, "GraphNamesModel", rfl, inGX10, tyX10_ok, nmX10, by decide, (lw_good_at w_1207 rfl), Or.inl rfl, rfl, rfl, by decide⟩
theorem fp_X10_36_X10 : z_FL "GraphNamesModel" 36 9 23 3 true := ⟨"GraphNamesModel", TX10, 63, tyX10, "GraphNamesModel", rfl, inGX10, tyX10_ok, nmX10, by decide, (lw_good_at w_1207 rfl), Or.inl rfl, rfl, rfl, rfl, by decide, fun _ => rfl⟩
theorem fl_X10_39_X10 : z_FLg "GraphNamesModel" 39 9 24 3 := ⟨"GraphNamesModel", TX10, 63, tyX10, "GraphNamesModel", rfl, inGX10, tyX10_ok, nmX10, by decide, (lw_good_at w_1208 rfl), Or.inl rfl, rfl, rfl, by decide⟩
theorem fp_X10_39_X10 : z_FL "GraphNamesModel" 39 9 24 3 true := ⟨"GraphNamesModel", TX10, 63, tyX10, "GraphNamesModel", rfl, inGX10, tyX10_ok, nmX10, by decide, (lw_good_at w_1208 rfl), Or.inl rfl, rfl, rfl, rfl, by decide, fun _ => rfl⟩
theorem fl_X10_272_X10 : z_FLg "GraphNamesModel" 272 9 25 0 := ⟨"GraphNamesModel", TX10, 63, tyX10, "GraphNamesModel", rfl, inGX10, tyX10_ok, nmX10, by decide, (lw_good_at w_1209 rfl), Or.inl rfl, rfl, rfl, by decide⟩
theorem fp_X10_272_X10 : z_FL "GraphNamesModel" 272 9 25 0 false := ⟨"GraphNamesModel", TX10, 63, tyX10, "GraphNamesModel", rfl, inGX10, tyX10_ok, nmX10, by decide, (lw_good_at w_1209 rfl), Or.inl rfl, rfl, rfl, rfl, by decide, fun h => Bool.noConfusion h⟩
theorem fl_X10_42_X10 : z_FLg "GraphNamesModel" 42 9 26 3 := ⟨"GraphNamesModel", TX10, 63, tyX10, "GraphNamesModel", rfl, inGX10, tyX10_ok, nmX10, by decide, (lw_good_at w_1210 rfl), Or.inl rfl, rfl, rfl, by decide⟩
theorem fp_X10_42_X10 : z_FL "GraphNamesModel" 42 9 26 3 true := ⟨"GraphNamesModel", TX10, 63, tyX10, "GraphNamesModel", rfl, inGX10, tyX10_ok, nmX10, by decide, (lw_good_at w_1210 rfl), Or.inl rfl, rfl, rfl, rfl, by decide, fun _ => rfl⟩
theorem fl_X10_45_X10 : z_FLg "GraphNamesModel" 45 9 27 3 := ⟨"GraphNamesModel", TX10, 63, tyX10, "GraphNamesModel", rfl, inGX10, tyX10_ok, nmX10, by decide, (lw_good_at w_1211 rfl), Or.inl rfl, rfl, rfl, by decide⟩
theorem fp_X10_45_X10 : z_FL "GraphNamesModel" 45 9 27 3 true := ⟨"GraphNamesModel", TX10, 63, tyX10, "GraphNamesModel", rfl, inGX10, tyX10_ok, nmX10, by decide, (lw_good_at w_1211 rfl), Or.inl rfl, rfl, rfl, rfl, by decide, fun _ => rfl⟩
theorem fl_X10_48_X10 : z_FLg "GraphNamesModel" 48 9 28 3 := ⟨"GraphNamesModel", TX10, 63, tyX10, "GraphNamesModel", rfl, inGX10, tyX10_ok, nmX10, by decide, (lw_good_at w_1212 rfl), Or.inl rfl, rfl, rfl, by decide⟩
theorem fp_X10_48_X10 : z_FL "GraphNamesModel" 48 9 28 3 true := ⟨"GraphNamesModel", TX10, 63, tyX10, "GraphNamesModel", rfl, inGX10, tyX10_ok, nmX10, by decide, (lw_good_at w_1212 rfl), Or.inl rfl, rfl, rfl, rfl, by decide, fun _ => rfl⟩
theorem fl_X10_51_X10 : z_FLg "GraphNamesModel" 51 9 29 3 := ⟨"GraphNamesModel", TX10, 63, tyX10, "GraphNamesModel", rfl, inGX10, tyX10_ok, nmX10, by decide, (lw_good_at w_1213 rfl), Or.inl rfl, rfl, rfl, by decide⟩
theorem fp_X10_51_X10 : z_FL "GraphNamesModel" 51 9 29 3 true := ⟨"GraphNamesModel", TX10, 63, tyX10, "GraphNamesModel", rfl, inGX10, tyX10_ok, nmX10, by decide, (lw_good_at w_1213 rfl), Or.inl rfl, rfl, rfl, rfl, by decide, fun _ => rfl⟩
theorem fl_X10_317_X10 : z_FLg "GraphNamesModel" 317 9 30 0 := ⟨"GraphNamesModel", TX10, 63, tyX10, "GraphNamesModel", rfl, inGX10, tyX10_ok, nmX10, by decide, (lw_good_at w_1214 rfl), Or.inl rfl, rfl, rfl, by decide⟩
theorem fp_X10_317_X10 : z_FL "GraphNamesModel" 317 9 30 0 false := ⟨"GraphNamesModel", TX10, 63, tyX10, "GraphNamesModel", rfl, inGX10, tyX10_ok, nmX10, by decide, (lw_good_at w_1214 rfl), Or.inl rfl, rfl, rfl, rfl, by decide, fun h => Bool.noConfusion h⟩
theorem fl_X10_320_X10 : z_FLg "GraphNamesModel" 320 9 31 0 := ⟨"GraphNamesModel", TX10, 63, tyX10, "GraphNamesModel", rfl, inGX10, tyX10_ok, nmX10, by decide, (lw_good_at w_1215 rfl), Or.inl rfl, rfl, rfl, by decide⟩
theorem fp_X10_320_X10 : z_FL "GraphNamesModel" 320 9 31 0 false := ⟨"GraphNamesModel", TX10, 63, tyX10, "GraphNamesModel", rfl, inGX10, tyX10_ok, nmX10, by decide, (lw_good_at w_1215 rfl), Or.inl rfl, rfl, rfl, rfl, by decide, fun h => Bool.noConfusion h⟩
theorem fl_X10_323_X10 : z_FLg "GraphNamesModel" 323 9 32 0 := ⟨"GraphNamesModel", TX10, 63, tyX10, "GraphNamesModel", rfl, inGX10, tyX10_ok, nmX10, by decide, (lw_good_at w_1216 rfl), Or.inl rfl, rfl, rfl, by decide⟩
theorem fp_X10_323_X10 : z_FL "GraphNamesModel" 323 9 32 0 false := ⟨"GraphNamesModel", TX10, 63, tyX10, "GraphNamesModel", rfl, inGX10, tyX10_ok, nmX10, by decide, (lw_good_at w_1216 rfl), Or.inl rfl, rfl, rfl, rfl, by decide, fun h => Bool.noConfusion h⟩
theorem fl_X10_335_X10 : z_FLg "GraphNamesModel" 335 9 33 0 := ⟨"GraphNamesModel", TX10, 63, tyX10, "GraphNamesModel", rfl, inGX10, tyX10_ok, nmX10, by decide, (lw_good_at w_1217 rfl), Or.inl rfl, rfl, rfl, by decide⟩
theorem fp_X10_335_X10 : z_FL "GraphNamesModel" 335 9 33 0 false := ⟨"GraphNamesModel", TX10, 63, tyX10, "GraphNamesModel", rfl, inGX10, tyX10_ok, nmX10, by decide, (lw_good_at w_1217 rfl), Or.inl rfl, rfl, rfl, rfl, by decide, fun h => Bool.noConfusion h⟩
theorem fl_X10_54_X10 : z_FLg "GraphNamesModel" 54 9 34 3 := ⟨"GraphNamesModel", TX10, 63, tyX10, "GraphNamesModel", rfl, inGX10, tyX10_ok, nmX10, by decide, (lw_good_at w_1218 rfl), Or.inl rfl, rfl, rfl, by decide⟩
theorem fp_X10_54_X10 : z_FL "GraphNamesModel" 54 9 34 3 true := ⟨"GraphNamesModel", TX10, 63, tyX10, "GraphNamesModel", rfl, inGX10, tyX10_ok, nmX10, by decide, (lw_good_at w_1218 rfl), Or.inl rfl, rfl, rfl, rfl, by decide, fun _ => rfl⟩
theorem fl_X10_311_X10 : z_FLg "GraphNamesModel" 311 9 35 0 := ⟨"GraphNamesModel", TX10, 63, tyX10, "GraphNamesModel", rfl, inGX10, tyX10_ok, nmX10, by decide, (lw_good_at w_1219 rfl), Or.inl rfl, rfl, rfl, by decide⟩
theorem fp_X10_311_X10 : z_FL "GraphNamesModel" 311 9 35 0 false := ⟨"GraphNamesModel", TX10, 63, tyX10, "GraphNamesModel", rfl, inGX10, tyX10_ok, nmX10, by decide, (lw_good_at w_1219 rfl), Or.inl rfl, rfl, rfl, rfl, by decide, fun h => Bool.noConfusion h⟩
theorem fl_X10_57_X10 : z_FLg "GraphNamesModel" 57 9 36 3 := ⟨"GraphNamesModel", TX10, 63, tyX10, "GraphNamesModel", rfl, inGX10, tyX10_ok, nmX10, by decide, (lw_good_at w_1220 rfl), Or.inl rfl, rfl, rfl, by decide⟩
theorem fp_X10_57_X10 : z_FL "GraphNamesModel" 57 9 36 3 true := ⟨"GraphNamesModel", TX10, 63, tyX10, "GraphNamesModel", rfl, inGX10, tyX10_ok, nmX10, by decide, (lw_good_at w_1220 rfl), Or.inl rfl, rfl, rfl, rfl, by decide, fun _ => rfl⟩
theorem fl_X10_60_X10 : z_FLg "GraphNamesModel" 60 9 37 3 := ⟨"GraphNamesModel", TX10, 63, tyX10, "GraphNamesModel", rfl, inGX10, tyX10_ok, nmX10, by decide, (lw_good_at w_1221 rfl), Or.inl rfl, rfl, rfl, by decide⟩
theorem fp_X10_60_X10 : z_FL "GraphNamesModel" 60 9 37 3 true := ⟨"GraphNamesModel", TX10, 63, tyX10, "GraphNamesModel", rfl, inGX10, tyX10_ok, nmX10, by decide, (lw_good_at w_1221 rfl), Or.inl rfl, rfl, rfl, rfl, by decide, fun _ => rfl⟩
theorem fl_X10_63_X10 : z_FLg "GraphNamesModel" 63 9 38 3 := ⟨"GraphNamesModel", TX10, 63, tyX10, "GraphNamesModel", rfl, inGX10, tyX10_ok, nmX10, by decide, (lw_good_at w_1222 rfl), Or.inl rfl, rfl, rfl, by decide⟩
theorem fp_X10_63_X10 : z_FL "GraphNamesModel" 63 9 38 3 true := ⟨"GraphNamesModel", TX10, 63, tyX10, "GraphNamesModel", rfl, inGX10, tyX10_ok, nmX10, by decide, (lw_good_at w_1222 rfl), Or.inl rfl, rfl, rfl, rfl, by decide, fun _ => rfl⟩
theorem fl_X10_66_X10 : z_FLg "GraphNamesModel" 66 9 39 3 := ⟨"GraphNamesModel", TX10, 63, tyX10, "GraphNamesModel", rfl, inGX10, tyX10_ok, nmX10, by decide, (lw_good_at w_1223 rfl), Or.inl rfl, rfl, rfl, by decide⟩
theorem fp_X10_66_X10 : z_FL "GraphNamesModel" 66 9 39 3 true := ⟨"GraphNamesModel", TX10, 63, tyX10, "GraphNamesModel", rfl, inGX10, tyX10_ok, nmX10, by decide, (lw_good_at w_1223 rfl), Or.inl rfl, rfl, rfl, rfl, by decide, fun _ => rfl⟩
theorem fl_X10_394_X10 : z_FLg "GraphNamesModel" 394 9 40 0 := ⟨"GraphNamesModel", TX10, 63, tyX10, "GraphNamesModel", rfl, inGX10, tyX10_ok, nmX10, by decide, (lw_good_at w_1224 rfl), Or.inl rfl, rfl, rfl, by decide⟩
theorem fp_X10_394_X10 : z_FL "GraphNamesModel" 394 9 40 0 false := ⟨"GraphNamesModel", TX10, 63, tyX10, "GraphNamesModel", rfl, inGX10, tyX10_ok, nmX10, by decide, (lw_good_at w_1224 rfl), Or.inl rfl, rfl, rfl, rfl, by decide, fun h => Bool.noConfusion h⟩
theorem fl_X10_388_X10 : z_FLg "GraphNamesModel" 388 9 41 0 := ⟨"GraphNamesModel", TX10, 63, tyX10, "GraphNamesModel", rfl, inGX10, tyX10_ok, nmX10, by decide, (lw_good_at w_1225 rfl), Or.inl rfl, rfl, rfl, by decide⟩
theorem fp_X10_388_X10 : z_FL "GraphNamesModel" 388 9 41 0 false := ⟨"GraphNamesModel", TX10, 63, tyX10, "GraphNamesModel", rfl, inGX10, tyX10_ok, nmX10, by decide, (lw_good_at w_1225 rfl), Or.inl rfl, rfl, rfl, rfl, by decide, fun h => Bool.noConfusion h⟩
theorem fl_X10_363_X10 : z_FLg "GraphNamesModel" 363 9 42 0 := ⟨"GraphNamesModel", TX10, 63, tyX10, "GraphNamesModel", rfl, inGX10, tyX10_ok, nmX10, by decide, (lw_good_at w_1226 rfl), Or.inl rfl, rfl, rfl, by decide⟩
theorem fp_X10_363_X10 : z_FL "GraphNamesModel" 363 9 42 0 false := ⟨"GraphNamesModel", TX10, 63, tyX10, "GraphNamesModel", rfl, inGX10, tyX10_ok, nmX10, by decide, (lw_good_at w_1226 rfl), Or.inl rfl, rfl, rfl, rfl, by decide, fun h => Bool.noConfusion h⟩
theorem fl_X10_69_X10 : z_FLg "GraphNamesModel" 69 9 43 3 := ⟨"GraphNamesModel", TX10, 63, tyX10, "GraphNamesModel", rfl, inGX10, tyX10_ok, nmX10, by decide, (lw_good_at w_1227 rfl), Or.inl rfl, rfl, rfl, by decide⟩
theorem fp_X10_69_X10 : z_FL "GraphNamesModel" 69 9 43 3 true := ⟨"GraphNamesModel", TX10, 63, tyX10, "GraphNamesModel", rfl, inGX10, tyX10_ok, nmX10, by decide, (lw_good_at w_1227 rfl), Or.inl rfl, rfl, rfl, rfl, by decide, fun _ => rfl⟩
theorem fl_X10_354_X10 : z_FLg "GraphNamesModel" 354 9 44 0 := ⟨"GraphNamesModel", TX10, 63, tyX10, "GraphNamesModel", rfl, inGX10, tyX10_ok, nmX10, by decide, (lw_good_at w_1228 rfl), Or.inl rfl, rfl, rfl, by decide⟩
theorem fp_X10_354_X10 : z_FL "GraphNamesModel" 354 9 44 0 false := ⟨"GraphNamesModel", TX10, 63, tyX10, "GraphNamesModel", rfl, inGX10, tyX10_ok, nmX10, by decide, (lw_good_at w_1228 rfl), Or.inl rfl, rfl, rfl, rfl, by decide, fun h => Bool.noConfusion h⟩
theorem fl_X10_72_X10 : z_FLg "GraphNamesModel" 72 9 45 3 := ⟨"GraphNamesModel", TX10, 63, tyX10, "GraphNamesModel", rfl, inGX10, tyX10_ok, nmX10, by decide, (lw_good_at w_1229 rfl), Or.inl rfl, rfl, rfl, by decide⟩
theorem fp_X10_72_X10 : z_FL "GraphNamesModel" 72 9 45 3 true := ⟨"GraphNamesModel", TX10, 63, tyX10, "GraphNamesModel", rfl, inGX10, tyX10_ok, nmX10, by decide, (lw_good_at w_1229 rfl), Or.inl rfl, rfl, rfl, rfl, by decide, fun _ => rfl⟩
theorem fl_X10_75_X10 : z_FLg "GraphNamesModel" 75 9 46 3 := ⟨"GraphNamesModel", TX10, 63, tyX10, "GraphNamesModel", rfl, inGX10, tyX10_ok, nmX10, by decide, (lw_good_at w_1230 rfl), Or.inl rfl, rfl, rfl, by decide⟩
theorem fp_X10_75_X10 : z_FL "GraphNamesModel" 75 9 46 3 true := ⟨"GraphNamesModel", TX10, 63, tyX10, "GraphNamesModel", rfl, inGX10, tyX10_ok, nmX10, by decide, (lw_good_at w_1230 rfl), Or.inl rfl, rfl, rfl, rfl, by decide, fun _ => rfl⟩
theorem fl_X10_78_X10 : z_FLg "GraphNamesModel" 78 9 47 3 := ⟨"GraphNamesModel", TX10, 63, tyX10, "GraphNamesModel", rfl, inGX10, tyX10_ok, nmX10, by decide, (lw_good_at w_1231 rfl), Or.inl rfl, rfl, rfl, by decide⟩
theorem fp_X10_78_X10 : z_FL "GraphNamesModel" 78 9 47 3 true := ⟨"GraphNamesModel", TX10, 63, tyX10, "GraphNamesModel", rfl, inGX10, tyX10_ok, nmX10, by decide, (lw_good_at w_1231 rfl), Or.inl rfl, rfl, rfl, rfl, by decide, fun _ => rfl⟩
theorem fl_X10_81_X10 : z_FLg "GraphNamesModel" 81 9 48 3 := ⟨"GraphNamesModel", TX10, 63, tyX10, "GraphNamesModel", rfl, inGX10, tyX10_ok, nmX10, by decide, (lw_good_at w_1232 rfl), Or.inl rfl, rfl, rfl, by decide⟩
theorem fp_X10_81_X10 : z_FL "GraphNamesModel" 81 9 48 3 true := ⟨"GraphNamesModel", TX10, 63, tyX10, "GraphNamesModel", rfl, inGX10, tyX10_ok, nmX10, by decide, (lw_good_at w_1232 rfl), Or.inl rfl, rfl, rfl, rfl, by decide, fun _ => rfl⟩
theorem fl_X10_357_X10 : z_FLg "GraphNamesModel" 357 9 49 0 := ⟨"GraphNamesModel", TX10, 63, tyX10, "GraphNamesModel", rfl, inGX10, tyX10_ok, nmX10, by decide, (lw_good_at w_1233 rfl), Or.inl rfl, rfl, rfl, by decide⟩
theorem fp_X10_357_X10 : z_FL "GraphNamesModel" 357 9 49 0 false := ⟨"GraphNamesModel", TX10, 63, tyX10, "GraphNamesModel", rfl, inGX10, tyX10_ok, nmX10, by decide, (lw_good_at w_1233 rfl), Or.inl rfl, rfl, rfl, rfl, by decide, fun h => Bool.noConfusion h⟩
theorem fl_X10_403_X10 : z_FLg "GraphNamesModel" 403 9 50 0 := ⟨"GraphNamesModel", TX10, 63, tyX10, "GraphNamesModel", rfl, inGX10, tyX10_ok, nmX10, by decide, (lw_good_at w_1234 rfl), Or.inl rfl, rfl, rfl, by decide⟩
theorem fp_X10_403_X10 : z_FL "GraphNamesModel" 403 9 50 0 false := ⟨"GraphNamesModel", TX10, 63, tyX10, "GraphNamesModel", rfl, inGX10, tyX10_ok, nmX10, by decide, (lw_good_at w_1234 rfl), Or.inl rfl, rfl, rfl, rfl, by decide, fun h => Bool.noConfusion h⟩
theorem fl_X10_84_X10 : z_FLg "GraphNamesModel" 84 9 51 3 := ⟨"GraphNamesModel", TX10, 63, tyX10, "GraphNamesModel", rfl, inGX10, tyX10_ok, nmX10, by decide, (lw_good_at w_1235 rfl), Or.inl rfl, rfl, rfl, by decide⟩
theorem fp_X10_84_X10 : z_FL "GraphNamesModel" 84 9 51 3 true := ⟨"GraphNamesModel", TX10, 63, tyX10, "GraphNamesModel", rfl, inGX10, tyX10_ok, nmX10, by decide, (lw_good_at w_1235 rfl), Or.inl rfl, rfl, rfl, rfl, by decide, fun _ => rfl⟩
theorem fl_X10_87_X10 : z_FLg "GraphNamesModel" 87 9 52 3 := ⟨"GraphNamesModel", TX10, 63, tyX10, "GraphNamesModel", rfl, inGX10, tyX10_ok, nmX10, by decide, (lw_good_at w_1236 rfl), Or.inl rfl, rfl, rfl, by decide⟩
theorem fp_X10_87_X10 : z_FL "GraphNamesModel" 87 9 52 3 true := ⟨"GraphNamesModel", TX10, 63, tyX10, "GraphNamesModel", rfl, inGX10, tyX10_ok, nmX10, by decide, (lw_good_at w_1236 rfl), Or.inl rfl, rfl, rfl, rfl, by decide, fun _ => rfl⟩
theorem fl_X10_90_X10 : z_FLg "GraphNamesModel" 90 9 53 3 := ⟨"GraphNamesModel", TX10, 63, tyX10, "GraphNamesModel", rfl, inGX10, tyX10_ok, nmX10, by decide, (lw_good_at w_1237 rfl), Or.inl rfl, rfl, rfl, by decide⟩
theorem fp_X10_90_X10 : z_FL "GraphNamesModel" 90 9 53 3 true := ⟨"GraphNamesModel", TX10, 63, tyX10, "GraphNamesModel", rfl, inGX10, tyX10_ok, nmX10, by decide, (lw_good_at w_1237 rfl), Or.inl rfl, rfl, rfl, rfl, by decide, fun _ => rfl⟩
theorem fl_X10_93_X10 : z_FLg "GraphNamesModel" 93 9 54 3 := ⟨"GraphNamesModel", TX10, 63, tyX10, "GraphNamesModel", rfl, inGX10, tyX10_ok, nmX10, by decide, (lw_good_at w_1238 rfl), Or.inl rfl, rfl, rfl, by decide⟩
theorem fp_X10_93_X10 : z_FL "GraphNamesModel" 93 9 54 3 true := ⟨"GraphNamesModel", TX10, 63, tyX10, "GraphNamesModel", rfl, inGX10, tyX10_ok, nmX10, by decide, (lw_good_at w_1238 rfl), Or.inl rfl, rfl, rfl, rfl, by decide, fun _ => rfl⟩
theorem fl_X10_96_X10 : z_FLg "GraphNamesModel" 96 9 55 3 := ⟨"GraphNamesModel", TX10, 63, tyX10, "GraphNamesModel", rfl, inGX10, tyX10_ok, nmX10, by decide, (lw_good_at w_1239 rfl), Or.inl rfl, rfl, rfl, by decide⟩
theorem fp_X10_96_X10 : z_FL "GraphNamesModel" 96 9 55 3 true := ⟨"GraphNamesModel", TX10, 63, tyX10, "GraphNamesModel", rfl, inGX10, tyX10_ok, nmX10, by decide, (lw_good_at w_1239 rfl), Or.inl rfl, rfl, rfl, rfl, by decide, fun _ => rfl⟩
theorem fl_X10_409_X10 : z_FLg "GraphNamesModel" 409 9 56 0 := ⟨"GraphNamesModel", TX10, 63, tyX10, "GraphNamesModel", rfl, inGX10, tyX10_ok, nmX10, by decide, (lw_good_at w_1240 rfl), Or.inl rfl, rfl, rfl, by decide⟩
theorem fp_X10_409_X10 : z_FL "GraphNamesModel" 409 9 56 0 false := ⟨"GraphNamesModel", TX10, 63, tyX10, "GraphNamesModel", rfl, inGX10, tyX10_ok, nmX10, by decide, (lw_good_at w_1240 rfl), Or.inl rfl, rfl, rfl, rfl, by decide, fun h => Bool.noConfusion h⟩
theorem fl_X10_412_X10 : z_FLg "GraphNamesModel" 412 9 57 0 := ⟨"GraphNamesModel", TX10, 63, tyX10, "GraphNamesModel", rfl, inGX10, tyX10_ok, nmX10, by decide, (lw_good_at w_1241 rfl), Or.inl rfl, rfl, rfl, by decide⟩
theorem fp_X10_412_X10 : z_FL "GraphNamesModel" 412 9 57 0 false := ⟨"GraphNamesModel", TX10, 63, tyX10, "GraphNamesModel", rfl, inGX10, tyX10_ok, nmX10, by decide, (lw_good_at w_1241 rfl), Or.inl rfl, rfl, rfl, rfl, by decide, fun h => Bool.noConfusion h⟩
theorem fl_X10_406_X10 : z_FLg "GraphNamesModel" 406 9 58 0 := ⟨"GraphNamesModel", TX10, 63, tyX10, "GraphNamesModel", rfl, inGX10, tyX10_ok, nmX10, by decide, (lw_good_at w_1242 rfl), Or.inl rfl, rfl, rfl, by decide⟩
theorem fp_X10_406_X10 : z_FL "GraphNamesModel" 406 9 58 0 false := ⟨"GraphNamesModel", TX10, 63, tyX10, "GraphNamesModel", rfl, inGX10, tyX10_ok, nmX10, by decide, (lw_good_at w_1242 rfl), Or.inl rfl, rfl, rfl, rfl, by decide, fun h => Bool.noConfusion h⟩
theorem fl_X10_430_X10 : z_FLg "GraphNamesModel" 430 9 59 0 := ⟨"GraphNamesModel", TX10, 63, tyX10, "GraphNamesModel", rfl, inGX10, tyX10_ok, nmX10, by decide, (lw_good_at w_1243 rfl), Or.inl rfl, rfl, rfl, by decide⟩
theorem fp_X10_430_X10 : z_FL "GraphNamesModel" 430 9 59 0 false := ⟨"GraphNamesModel", TX10, 63, tyX10, "GraphNamesModel", rfl, inGX10, tyX10_ok, nmX10, by decide, (lw_good_at w_1243 rfl), Or.inl rfl, rfl, rfl, rfl, by decide, fun h => Bool.noConfusion h⟩
theorem fl_X10_99_X10 : z_FLg "GraphNamesModel" 99 9 60 3 := ⟨"GraphNamesModel", TX10, 63, tyX10, "GraphNamesModel", rfl, inGX10, tyX10_ok, nmX10, by decide, (lw_good_at w_1244 rfl), Or.inl rfl, rfl, rfl, by decide⟩
theorem fp_X10_99_X10 : z_FL "GraphNamesModel" 99 9 60 3 true := ⟨"GraphNamesModel", TX10, 63, tyX10, "GraphNamesModel", rfl, inGX10, tyX10_ok, nmX10, by decide, (lw_good_at w_1244 rfl), Or.inl rfl, rfl, rfl, rfl, by decide, fun _ => rfl⟩
theorem fl_X10_102_X10 : z_FLg "GraphNamesModel" 102 9 61 3 := ⟨"GraphNamesModel", TX10, 63, tyX10, "GraphNamesModel", rfl, inGX10, tyX10_ok, nmX10, by decide, (lw_good_at w_1245 rfl), Or.inl rfl, rfl, rfl, by decide⟩
theorem fp_X10_102_X10 : z_FL "GraphNamesModel" 102 9 61 3 true := ⟨"GraphNamesModel", TX10, 63, tyX10, "GraphNamesModel", rfl, inGX10, tyX10_ok, nmX10, by decide, (lw_good_at w_1245 rfl), Or.inl rfl, rfl, rfl, rfl, by decide, fun _ => rfl⟩
theorem fl_X10_467_X10 : z_FLg "GraphNamesModel" 467 9 62 2 := ⟨"GraphNamesModel", TX10, 63, tyX10, "GraphNamesModel", rfl, inGX10, tyX10_ok, nmX10, by decide, (lw_good_at w_1246 rfl), Or.inl rfl, rfl, rfl, by decide⟩
theorem fp_X10_467_X10 : z_FL "GraphNamesModel" 467 9 62 2 false := ⟨"GraphNamesModel", TX10, 63, tyX10, "GraphNamesModel", rfl, inGX10, tyX10_ok, nmX10, by decide, (lw_good_at w_1246 rfl), Or.inl rfl, rfl, rfl, rfl, by decide, fun h => Bool.noConfusion h⟩
theorem kc_J6_265 : Cond.constant "java/lang/Integer" 265 (1431655765 : Int32) ∈ lw_good := (lw_good_at w_688 rfl)
theorem kc_J6_266 : Cond.constant "java/lang/Integer" 266 (858993459 : Int32) ∈ lw_good := (lw_good_at w_689 rfl)
theorem kc_J6_267 : Cond.constant "java/lang/Integer" 267 (252645135 : Int32) ∈ lw_good := (lw_good_at w_690 rfl)
theorem kc_X0_76 : Cond.constantLong "GraphNames$Cells" 76 (9223372036854775807 : Int64) ∈ lw_good := (lw_good_at w_737 rfl)
theorem kc_J6_264 : Cond.constant "java/lang/Integer" 264 (65536 : Int32) ∈ lw_good := (lw_good_at w_805 rfl)
theorem kc_X9_302 : Cond.constant "GraphNames" 302 (2147483647 : Int32) ∈ lw_good := (lw_good_at w_1057 rfl)
theorem kc_X1_43 : Cond.constantLong "GraphNames$Graph" 43 (48271 : Int64) ∈ lw_good := (lw_good_at w_1062 rfl)
theorem kc_X1_45 : Cond.constantLong "GraphNames$Graph" 45 (2147483647 : Int64) ∈ lw_good := (lw_good_at w_1063 rfl)
theorem kc_X10_475 : Cond.constant "GraphNamesModel" 475 (2147483646 : Int32) ∈ lw_good := (lw_good_at w_1846 rfl)
theorem kc_X10_471 : Cond.constantLong "GraphNamesModel" 471 (48271 : Int64) ∈ lw_good := (lw_good_at w_1851 rfl)
theorem kc_X10_473 : Cond.constantLong "GraphNamesModel" 473 (2147483647 : Int64) ∈ lw_good := (lw_good_at w_1852 rfl)
