/-! methods, links, fields: what the tables say -/
abbrev mX0_init : zM := (yX0_init, cX0_init, 1, none)
theorem md_X0_init : z_MD mX0_init 0 := ⟨(lw_good_at w_176 rfl), (lw_good_at w_36 rfl), by decide, by decide, by decide +kernel, by decide⟩
abbrev mX0_begin : zM := (yX0_begin, cX0_begin, 2, none)
theorem md_X0_begin : z_MD mX0_begin 1 := ⟨(lw_good_at w_513 rfl), (lw_good_at w_36 rfl), by decide, by decide, by decide +kernel, by decide⟩
abbrev mX0_byColours : zM := (yX0_byColours, cX0_byColours, 5, none)
theorem md_X0_byColours : z_MD mX0_byColours 1 := ⟨(lw_good_at w_455 rfl), (lw_good_at w_36 rfl), by decide, by decide, by decide +kernel, by decide⟩
abbrev mX0_refine : zM := (yX0_refine, cX0_refine, 2, none)
theorem md_X0_refine : z_MD mX0_refine 1 := ⟨(lw_good_at w_518 rfl), (lw_good_at w_36 rfl), by decide, by decide, by decide +kernel, by decide⟩
abbrev mX0_divide : zM := (yX0_divide, cX0_divide, 3, (some .boolean))
theorem md_X0_divide : z_MD mX0_divide 1 := ⟨(lw_good_at w_522 rfl), (lw_good_at w_36 rfl), by decide, by decide, by decide +kernel, by decide⟩
abbrev mX0_signOf : zM := (yX0_signOf, cX0_signOf, 7, (some .long))
theorem md_X0_signOf : z_MD mX0_signOf 2 := ⟨(lw_good_at w_526 rfl), (lw_good_at w_36 rfl), by decide, by decide, by decide +kernel, by decide⟩
abbrev mX0_split : zM := (yX0_split, cX0_split, 7, none)
theorem md_X0_split : z_MD mX0_split 1 := ⟨(lw_good_at w_531 rfl), (lw_good_at w_36 rfl), by decide, by decide, by decide +kernel, by decide⟩
abbrev mX0_putAhead : zM := (yX0_putAhead, cX0_putAhead, 4, none)
theorem md_X0_putAhead : z_MD mX0_putAhead 1 := ⟨(lw_good_at w_624 rfl), (lw_good_at w_36 rfl), by decide, by decide, by decide +kernel, by decide⟩
abbrev mX0_target : zM := (yX0_target, cX0_target, 4, (some .int))
theorem md_X0_target : z_MD mX0_target 0 := ⟨(lw_good_at w_545 rfl), (lw_good_at w_36 rfl), by decide, by decide, by decide +kernel, by decide⟩
abbrev mX0_mark : zM := (yX0_mark, cX0_mark, 3, (some .int))
theorem md_X0_mark : z_MD mX0_mark 0 := ⟨(lw_good_at w_537 rfl), (lw_good_at w_36 rfl), by decide, by decide, by decide +kernel, by decide⟩
abbrev mX0_take : zM := (yX0_take, cX0_take, 2, none)
theorem md_X0_take : z_MD mX0_take 1 := ⟨(lw_good_at w_620 rfl), (lw_good_at w_36 rfl), by decide, by decide, by decide +kernel, by decide⟩
abbrev mX0_alike : zM := (yX0_alike, cX0_alike, 3, (some .boolean))
theorem md_X0_alike : z_MD mX0_alike 1 := ⟨(lw_good_at w_739 rfl), (lw_good_at w_36 rfl), by decide, by decide, by decide +kernel, by decide⟩
abbrev mX1_init : zM := (yX1_init, cX1_init, 1, none)
theorem md_X1_init : z_MD mX1_init 0 := ⟨(lw_good_at w_82 rfl), (lw_good_at w_34 rfl), by decide, by decide, by decide +kernel, by decide⟩
abbrev mX1_has : zM := (yX1_has, cX1_has, 2, (some .boolean))
theorem md_X1_has : z_MD mX1_has 1 := ⟨(lw_good_at w_470 rfl), (lw_good_at w_34 rfl), by decide, by decide, by decide +kernel, by decide⟩
abbrev mX1_hasAll : zM := (yX1_hasAll, cX1_hasAll, 2, (some .boolean))
theorem md_X1_hasAll : z_MD mX1_hasAll 1 := ⟨(lw_good_at w_707 rfl), (lw_good_at w_34 rfl), by decide, by decide, by decide +kernel, by decide⟩
abbrev mX1_links : zM := (yX1_links, cX1_links, 3, (some .int))
theorem md_X1_links : z_MD mX1_links 0 := ⟨(lw_good_at w_445 rfl), (lw_good_at w_34 rfl), by decide, by decide, by decide +kernel, by decide⟩
abbrev mX1_mostLinks : zM := (yX1_mostLinks, cX1_mostLinks, 3, (some .int))
theorem md_X1_mostLinks : z_MD mX1_mostLinks 0 := ⟨(lw_good_at w_459 rfl), (lw_good_at w_34 rfl), by decide, by decide, by decide +kernel, by decide⟩
abbrev mX1_join : zM := (yX1_join, cX1_join, 5, none)
theorem md_X1_join : z_MD mX1_join 3 := ⟨(lw_good_at w_765 rfl), (lw_good_at w_34 rfl), by decide, by decide, by decide +kernel, by decide⟩
abbrev mX1_exchange : zM := (yX1_exchange, cX1_exchange, 6, none)
theorem md_X1_exchange : z_MD mX1_exchange 2 := ⟨(lw_good_at w_761 rfl), (lw_good_at w_34 rfl), by decide, by decide, by decide +kernel, by decide⟩
abbrev mX1_mix : zM := (yX1_mix, cX1_mix, 7, (some .int))
theorem md_X1_mix : z_MD mX1_mix 1 := ⟨(lw_good_at w_755 rfl), (lw_good_at w_34 rfl), by decide, by decide, by decide +kernel, by decide⟩
abbrev mX1_empty : zM := (yX1_empty, cX1_empty, 4, none)
theorem md_X1_empty : z_MD mX1_empty 1 := ⟨(lw_good_at w_954 rfl), (lw_good_at w_34 rfl), by decide, by decide, by decide +kernel, by decide⟩
abbrev mX1_take : zM := (yX1_take, cX1_take, 3, none)
theorem md_X1_take : z_MD mX1_take 1 := ⟨(lw_good_at w_497 rfl), (lw_good_at w_34 rfl), by decide, by decide, by decide +kernel, by decide⟩
abbrev mX1_same : zM := (yX1_same, cX1_same, 4, (some .boolean))
theorem md_X1_same : z_MD mX1_same 1 := ⟨(lw_good_at w_493 rfl), (lw_good_at w_34 rfl), by decide, by decide, by decide +kernel, by decide⟩
abbrev mX2_init : zM := (yX2_init, cX2_init, 1, none)
theorem md_X2_init : z_MD mX2_init 0 := ⟨(lw_good_at w_259 rfl), (lw_good_at w_40 rfl), by decide, by decide, by decide +kernel, by decide⟩
abbrev mX2_write : zM := (yX2_write, cX2_write, 6, none)
theorem md_X2_write : z_MD mX2_write 3 := ⟨(lw_good_at w_549 rfl), (lw_good_at w_40 rfl), by decide, by decide, by decide +kernel, by decide⟩
abbrev mX2_compare : zM := (yX2_compare, cX2_compare, 4, (some .int))
theorem md_X2_compare : z_MD mX2_compare 1 := ⟨(lw_good_at w_568 rfl), (lw_good_at w_40 rfl), by decide, by decide, by decide +kernel, by decide⟩
abbrev mX2_compareCodes : zM := (yX2_compareCodes, cX2_compareCodes, 3, (some .int))
theorem md_X2_compareCodes : z_MD mX2_compareCodes 1 := ⟨(lw_good_at w_578 rfl), (lw_good_at w_40 rfl), by decide, by decide, by decide +kernel, by decide⟩
abbrev mX2_take : zM := (yX2_take, cX2_take, 2, none)
theorem md_X2_take : z_MD mX2_take 1 := ⟨(lw_good_at w_563 rfl), (lw_good_at w_40 rfl), by decide, by decide, by decide +kernel, by decide⟩
abbrev mX3_init : zM := (yX3_init, cX3_init, 1, none)
theorem md_X3_init : z_MD mX3_init 0 := ⟨(lw_good_at w_210 rfl), (lw_good_at w_37 rfl), by decide, by decide, by decide +kernel, by decide⟩
abbrev mX3_match : zM := (yX3_match, cX3_match, 5, none)
theorem md_X3_match : z_MD mX3_match 3 := ⟨(lw_good_at w_668 rfl), (lw_good_at w_37 rfl), by decide, by decide, by decide +kernel, by decide⟩
abbrev mX3_send : zM := (yX3_send, cX3_send, 4, none)
theorem md_X3_send : z_MD mX3_send 2 := ⟨(lw_good_at w_673 rfl), (lw_good_at w_37 rfl), by decide, by decide, by decide +kernel, by decide⟩
abbrev mX3_fits : zM := (yX3_fits, cX3_fits, 3, (some .boolean))
theorem md_X3_fits : z_MD mX3_fits 2 := ⟨(lw_good_at w_683 rfl), (lw_good_at w_37 rfl), by decide, by decide, by decide +kernel, by decide⟩
abbrev mX3_unlike : zM := (yX3_unlike, cX3_unlike, 5, (some .int))
theorem md_X3_unlike : z_MD mX3_unlike 2 := ⟨(lw_good_at w_687 rfl), (lw_good_at w_37 rfl), by decide, by decide, by decide +kernel, by decide⟩
abbrev mX3_note : zM := (yX3_note, cX3_note, 2, none)
theorem md_X3_note : z_MD mX3_note 0 := ⟨(lw_good_at w_677 rfl), (lw_good_at w_37 rfl), by decide, by decide, by decide +kernel, by decide⟩
abbrev mX3_orbits : zM := (yX3_orbits, cX3_orbits, 3, (some .int))
theorem md_X3_orbits : z_MD mX3_orbits 0 := ⟨(lw_good_at w_691 rfl), (lw_good_at w_37 rfl), by decide, by decide, by decide +kernel, by decide⟩
abbrev mX3_unmoved : zM := (yX3_unmoved, cX3_unmoved, 3, (some .int))
theorem md_X3_unmoved : z_MD mX3_unmoved 0 := ⟨(lw_good_at w_695 rfl), (lw_good_at w_37 rfl), by decide, by decide, by decide +kernel, by decide⟩
abbrev mX3_leastChanges : zM := (yX3_leastChanges, cX3_leastChanges, 3, (some .int))
theorem md_X3_leastChanges : z_MD mX3_leastChanges 2 := ⟨(lw_good_at w_723 rfl), (lw_good_at w_37 rfl), by decide, by decide, by decide +kernel, by decide⟩
abbrev mX3_weigh : zM := (yX3_weigh, cX3_weigh, 5, none)
theorem md_X3_weigh : z_MD mX3_weigh 3 := ⟨(lw_good_at w_727 rfl), (lw_good_at w_37 rfl), by decide, by decide, by decide +kernel, by decide⟩
abbrev mX4_init : zM := (yX4_init, cX4_init, 2, none)
theorem md_X4_init : z_MD mX4_init 0 := ⟨(lw_good_at w_155 rfl), (lw_good_at w_35 rfl), by decide, by decide, by decide +kernel, by decide⟩
abbrev mX4_keep : zM := (yX4_keep, cX4_keep, 3, none)
theorem md_X4_keep : z_MD mX4_keep 2 := ⟨(lw_good_at w_749 rfl), (lw_good_at w_35 rfl), by decide, by decide, by decide +kernel, by decide⟩
abbrev mX5_init : zM := (yX5_init, cX5_init, 1, none)
theorem md_X5_init : z_MD mX5_init 0 := ⟨(lw_good_at w_76 rfl), (lw_good_at w_33 rfl), by decide, by decide, by decide +kernel, by decide⟩
abbrev mX5_put : zM := (yX5_put, cX5_put, 3, none)
theorem md_X5_put : z_MD mX5_put 1 := ⟨(lw_good_at w_916 rfl), (lw_good_at w_33 rfl), by decide, by decide, by decide +kernel, by decide⟩
abbrev mX5_read : zM := (yX5_read, cX5_read, 2, none)
theorem md_X5_read : z_MD mX5_read 1 := ⟨(lw_good_at w_924 rfl), (lw_good_at w_33 rfl), by decide, by decide, by decide +kernel, by decide⟩
abbrev mX5_readSize : zM := (yX5_readSize, cX5_readSize, 1, (some .boolean))
theorem md_X5_readSize : z_MD mX5_readSize 0 := ⟨(lw_good_at w_935 rfl), (lw_good_at w_33 rfl), by decide, by decide, by decide +kernel, by decide⟩
abbrev mX5_readLines : zM := (yX5_readLines, cX5_readLines, 2, none)
theorem md_X5_readLines : z_MD mX5_readLines 0 := ⟨(lw_good_at w_958 rfl), (lw_good_at w_33 rfl), by decide, by decide, by decide +kernel, by decide⟩
abbrev mX5_readLine : zM := (yX5_readLine, cX5_readLine, 1, (some .boolean))
theorem md_X5_readLine : z_MD mX5_readLine 0 := ⟨(lw_good_at w_962 rfl), (lw_good_at w_33 rfl), by decide, by decide, by decide +kernel, by decide⟩
abbrev mX5_readPaint : zM := (yX5_readPaint, cX5_readPaint, 2, (some .boolean))
theorem md_X5_readPaint : z_MD mX5_readPaint 0 := ⟨(lw_good_at w_967 rfl), (lw_good_at w_33 rfl), by decide, by decide, by decide +kernel, by decide⟩
abbrev mX5_readLink : zM := (yX5_readLink, cX5_readLink, 3, (some .boolean))
theorem md_X5_readLink : z_MD mX5_readLink 0 := ⟨(lw_good_at w_978 rfl), (lw_good_at w_33 rfl), by decide, by decide, by decide +kernel, by decide⟩
abbrev mX5_readChain : zM := (yX5_readChain, cX5_readChain, 7, (some .boolean))
theorem md_X5_readChain : z_MD mX5_readChain 2 := ⟨(lw_good_at w_988 rfl), (lw_good_at w_33 rfl), by decide, by decide, by decide +kernel, by decide⟩
abbrev mX5_joins : zM := (yX5_joins, cX5_joins, 3, (some .boolean))
theorem md_X5_joins : z_MD mX5_joins 2 := ⟨(lw_good_at w_982 rfl), (lw_good_at w_33 rfl), by decide, by decide, by decide +kernel, by decide⟩
abbrev mX5_fails : zM := (yX5_fails, cX5_fails, 2, (some .boolean))
theorem md_X5_fails : z_MD mX5_fails 1 := ⟨(lw_good_at w_946 rfl), (lw_good_at w_33 rfl), by decide, by decide, by decide +kernel, by decide⟩
abbrev mX5_isVertex : zM := (yX5_isVertex, cX5_isVertex, 1, (some .boolean))
theorem md_X5_isVertex : z_MD mX5_isVertex 0 := ⟨(lw_good_at w_971 rfl), (lw_good_at w_33 rfl), by decide, by decide, by decide +kernel, by decide⟩
abbrev mX5_digit : zM := (yX5_digit, cX5_digit, 1, (some .int))
theorem md_X5_digit : z_MD mX5_digit 0 := ⟨(lw_good_at w_950 rfl), (lw_good_at w_33 rfl), by decide, by decide, by decide +kernel, by decide⟩
abbrev mX5_isWord : zM := (yX5_isWord, cX5_isWord, 3, (some .boolean))
theorem md_X5_isWord : z_MD mX5_isWord 1 := ⟨(lw_good_at w_940 rfl), (lw_good_at w_33 rfl), by decide, by decide, by decide +kernel, by decide⟩
abbrev mX5_step : zM := (yX5_step, cX5_step, 2, none)
theorem md_X5_step : z_MD mX5_step 0 := ⟨(lw_good_at w_928 rfl), (lw_good_at w_33 rfl), by decide, by decide, by decide +kernel, by decide⟩
abbrev mX5_isLetter : zM := (yX5_isLetter, cX5_isLetter, 1, (some .boolean))
theorem md_X5_isLetter : z_MD mX5_isLetter 1 := ⟨(lw_good_at w_931 rfl), (lw_good_at w_33 rfl), by decide, by decide, by decide +kernel, by decide⟩
abbrev mX6_init : zM := (yX6_init, cX6_init, 1, none)
theorem md_X6_init : z_MD mX6_init 0 := ⟨(lw_good_at w_246 rfl), (lw_good_at w_39 rfl), by decide, by decide, by decide +kernel, by decide⟩
abbrev mX6_forget : zM := (yX6_forget, cX6_forget, 1, none)
theorem md_X6_forget : z_MD mX6_forget 0 := ⟨(lw_good_at w_506 rfl), (lw_good_at w_39 rfl), by decide, by decide, by decide +kernel, by decide⟩
abbrev mX6_skips : zM := (yX6_skips, cX6_skips, 4, (some .boolean))
theorem md_X6_skips : z_MD mX6_skips 3 := ⟨(lw_good_at w_597 rfl), (lw_good_at w_39 rfl), by decide, by decide, by decide +kernel, by decide⟩
abbrev mX6_spread : zM := (yX6_spread, cX6_spread, 7, (some .int))
theorem md_X6_spread : z_MD mX6_spread 2 := ⟨(lw_good_at w_601 rfl), (lw_good_at w_39 rfl), by decide, by decide, by decide +kernel, by decide⟩
abbrev mX6_leavesAlone : zM := (yX6_leavesAlone, cX6_leavesAlone, 4, (some .boolean))
theorem md_X6_leavesAlone : z_MD mX6_leavesAlone 2 := ⟨(lw_good_at w_605 rfl), (lw_good_at w_39 rfl), by decide, by decide, by decide +kernel, by decide⟩
abbrev mX6_imageOf : zM := (yX6_imageOf, cX6_imageOf, 5, (some .int))
theorem md_X6_imageOf : z_MD mX6_imageOf 2 := ⟨(lw_good_at w_613 rfl), (lw_good_at w_39 rfl), by decide, by decide, by decide +kernel, by decide⟩
abbrev mX6_cuts : zM := (yX6_cuts, cX6_cuts, 3, (some .boolean))
theorem md_X6_cuts : z_MD mX6_cuts 1 := ⟨(lw_good_at w_632 rfl), (lw_good_at w_39 rfl), by decide, by decide, by decide +kernel, by decide⟩
abbrev mX6_reach : zM := (yX6_reach, cX6_reach, 2, none)
theorem md_X6_reach : z_MD mX6_reach 0 := ⟨(lw_good_at w_559 rfl), (lw_good_at w_39 rfl), by decide, by decide, by decide +kernel, by decide⟩
abbrev mX6_note : zM := (yX6_note, cX6_note, 4, none)
theorem md_X6_note : z_MD mX6_note 1 := ⟨(lw_good_at w_582 rfl), (lw_good_at w_39 rfl), by decide, by decide, by decide +kernel, by decide⟩
abbrev mX7_init : zM := (yX7_init, cX7_init, 1, none)
theorem md_X7_init : z_MD mX7_init 0 := ⟨(lw_good_at w_362 rfl), (lw_good_at w_41 rfl), by decide, by decide, by decide +kernel, by decide⟩
abbrev mX7_forget : zM := (yX7_forget, cX7_forget, 1, none)
theorem md_X7_forget : z_MD mX7_forget 0 := ⟨(lw_good_at w_509 rfl), (lw_good_at w_41 rfl), by decide, by decide, by decide +kernel, by decide⟩
abbrev mX7_skips : zM := (yX7_skips, cX7_skips, 4, (some .boolean))
theorem md_X7_skips : z_MD mX7_skips 3 := ⟨(lw_good_at w_616 rfl), (lw_good_at w_41 rfl), by decide, by decide, by decide +kernel, by decide⟩
abbrev mX7_cuts : zM := (yX7_cuts, cX7_cuts, 2, (some .boolean))
theorem md_X7_cuts : z_MD mX7_cuts 1 := ⟨(lw_good_at w_635 rfl), (lw_good_at w_41 rfl), by decide, by decide, by decide +kernel, by decide⟩
abbrev mX7_reach : zM := (yX7_reach, cX7_reach, 2, none)
theorem md_X7_reach : z_MD mX7_reach 0 := ⟨(lw_good_at w_585 rfl), (lw_good_at w_41 rfl), by decide, by decide, by decide +kernel, by decide⟩
abbrev mX8_init : zM := (yX8_init, cX8_init, 2, none)
theorem md_X8_init : z_MD mX8_init 0 := ⟨(lw_good_at w_249 rfl), (lw_good_at w_38 rfl), by decide, by decide, by decide +kernel, by decide⟩
abbrev mX8_look : zM := (yX8_look, cX8_look, 2, none)
theorem md_X8_look : z_MD mX8_look 1 := ⟨(lw_good_at w_489 rfl), (lw_good_at w_38 rfl), by decide, by decide, by decide +kernel, by decide⟩
abbrev mX8_come : zM := (yX8_come, cX8_come, 7, none)
theorem md_X8_come : z_MD mX8_come 2 := ⟨(lw_good_at w_541 rfl), (lw_good_at w_38 rfl), by decide, by decide, by decide +kernel, by decide⟩
abbrev mX9_init : zM := (yX9_init, cX9_init, 2, none)
theorem md_X9_init : z_MD mX9_init 0 := ⟨(lw_good_at w_62 rfl), (lw_good_at w_32 rfl), by decide, by decide, by decide +kernel, by decide⟩
abbrev mX9_feed : zM := (yX9_feed, cX9_feed, 6, (some .int))
theorem md_X9_feed : z_MD mX9_feed 5 := ⟨(lw_good_at w_912 rfl), (lw_good_at w_32 rfl), by decide, by decide, by decide +kernel, by decide⟩
abbrev mX9_text : zM := (yX9_text, cX9_text, 4, (some .int))
theorem md_X9_text : z_MD mX9_text 2 := ⟨(lw_good_at w_920 rfl), (lw_good_at w_32 rfl), by decide, by decide, by decide +kernel, by decide⟩
abbrev mX9_graph : zM := (yX9_graph, cX9_graph, 4, (some .int))
theorem md_X9_graph : z_MD mX9_graph 2 := ⟨(lw_good_at w_429 rfl), (lw_good_at w_32 rfl), by decide, by decide, by decide +kernel, by decide⟩
abbrev mX9_colour : zM := (yX9_colour, cX9_colour, 4, (some .int))
theorem md_X9_colour : z_MD mX9_colour 2 := ⟨(lw_good_at w_466 rfl), (lw_good_at w_32 rfl), by decide, by decide, by decide +kernel, by decide⟩
abbrev mX9_kind : zM := (yX9_kind, cX9_kind, 5, (some .int))
theorem md_X9_kind : z_MD mX9_kind 3 := ⟨(lw_good_at w_474 rfl), (lw_good_at w_32 rfl), by decide, by decide, by decide +kernel, by decide⟩
abbrev mX9_degree : zM := (yX9_degree, cX9_degree, 5, (some .int))
theorem md_X9_degree : z_MD mX9_degree 3 := ⟨(lw_good_at w_478 rfl), (lw_good_at w_32 rfl), by decide, by decide, by decide +kernel, by decide⟩
abbrev mX9_start : zM := (yX9_start, cX9_start, 5, (some .int))
theorem md_X9_start : z_MD mX9_start 2 := ⟨(lw_good_at w_1239 rfl), (lw_good_at w_32 rfl), by decide, by decide, by decide +kernel, by decide⟩
abbrev mX9_cell : zM := (yX9_cell, cX9_cell, 4, (some .int))
theorem md_X9_cell : z_MD mX9_cell 2 := ⟨(lw_good_at w_1245 rfl), (lw_good_at w_32 rfl), by decide, by decide, by decide +kernel, by decide⟩
abbrev mX9_tree : zM := (yX9_tree, cX9_tree, 5, (some .int))
theorem md_X9_tree : z_MD mX9_tree 2 := ⟨(lw_good_at w_483 rfl), (lw_good_at w_32 rfl), by decide, by decide, by decide +kernel, by decide⟩
abbrev mX9_search : zM := (yX9_search, cX9_search, 5, (some .int))
theorem md_X9_search : z_MD mX9_search 2 := ⟨(lw_good_at w_639 rfl), (lw_good_at w_32 rfl), by decide, by decide, by decide +kernel, by decide⟩
abbrev mX9_name : zM := (yX9_name, cX9_name, 4, (some .int))
theorem md_X9_name : z_MD mX9_name 2 := ⟨(lw_good_at w_650 rfl), (lw_good_at w_32 rfl), by decide, by decide, by decide +kernel, by decide⟩
abbrev mX9_place : zM := (yX9_place, cX9_place, 4, (some .int))
theorem md_X9_place : z_MD mX9_place 2 := ⟨(lw_good_at w_1269 rfl), (lw_good_at w_32 rfl), by decide, by decide, by decide +kernel, by decide⟩
abbrev mX9_less : zM := (yX9_less, cX9_less, 6, (some .int))
theorem md_X9_less : z_MD mX9_less 2 := ⟨(lw_good_at w_654 rfl), (lw_good_at w_32 rfl), by decide, by decide, by decide +kernel, by decide⟩
abbrev mX9_generator : zM := (yX9_generator, cX9_generator, 6, (some .int))
theorem md_X9_generator : z_MD mX9_generator 3 := ⟨(lw_good_at w_659 rfl), (lw_good_at w_32 rfl), by decide, by decide, by decide +kernel, by decide⟩
abbrev mX9_symmetries : zM := (yX9_symmetries, cX9_symmetries, 4, (some .int))
theorem md_X9_symmetries : z_MD mX9_symmetries 2 := ⟨(lw_good_at w_664 rfl), (lw_good_at w_32 rfl), by decide, by decide, by decide +kernel, by decide⟩
abbrev mX9_orbit : zM := (yX9_orbit, cX9_orbit, 4, (some .int))
theorem md_X9_orbit : z_MD mX9_orbit 2 := ⟨(lw_good_at w_699 rfl), (lw_good_at w_32 rfl), by decide, by decide, by decide +kernel, by decide⟩
abbrev mX9_leave : zM := (yX9_leave, cX9_leave, 4, (some .int))
theorem md_X9_leave : z_MD mX9_leave 2 := ⟨(lw_good_at w_703 rfl), (lw_good_at w_32 rfl), by decide, by decide, by decide +kernel, by decide⟩
abbrev mX9_maps : zM := (yX9_maps, cX9_maps, 5, (some .int))
theorem md_X9_maps : z_MD mX9_maps 2 := ⟨(lw_good_at w_711 rfl), (lw_good_at w_32 rfl), by decide, by decide, by decide +kernel, by decide⟩
abbrev mX9_map : zM := (yX9_map, cX9_map, 6, (some .int))
theorem md_X9_map : z_MD mX9_map 3 := ⟨(lw_good_at w_715 rfl), (lw_good_at w_32 rfl), by decide, by decide, by decide +kernel, by decide⟩
abbrev mX9_changes : zM := (yX9_changes, cX9_changes, 5, (some .int))
theorem md_X9_changes : z_MD mX9_changes 2 := ⟨(lw_good_at w_719 rfl), (lw_good_at w_32 rfl), by decide, by decide, by decide +kernel, by decide⟩
abbrev mX9_told : zM := (yX9_told, cX9_told, 5, (some .int))
theorem md_X9_told : z_MD mX9_told 2 := ⟨(lw_good_at w_731 rfl), (lw_good_at w_32 rfl), by decide, by decide, by decide +kernel, by decide⟩
abbrev mX9_base : zM := (yX9_base, cX9_base, 4, (some .int))
theorem md_X9_base : z_MD mX9_base 2 := ⟨(lw_good_at w_1255 rfl), (lw_good_at w_32 rfl), by decide, by decide, by decide +kernel, by decide⟩
abbrev mX9_shuffle : zM := (yX9_shuffle, cX9_shuffle, 4, (some .int))
theorem md_X9_shuffle : z_MD mX9_shuffle 2 := ⟨(lw_good_at w_744 rfl), (lw_good_at w_32 rfl), by decide, by decide, by decide +kernel, by decide⟩
abbrev mX9_copy : zM := (yX9_copy, cX9_copy, 5, (some .int))
theorem md_X9_copy : z_MD mX9_copy 2 := ⟨(lw_good_at w_769 rfl), (lw_good_at w_32 rfl), by decide, by decide, by decide +kernel, by decide⟩
abbrev mX9_row : zM := (yX9_row, cX9_row, 4, (some .int))
theorem md_X9_row : z_MD mX9_row 2 := ⟨(lw_good_at w_774 rfl), (lw_good_at w_32 rfl), by decide, by decide, by decide +kernel, by decide⟩
abbrev mX9_trouble : zM := (yX9_trouble, cX9_trouble, 1, (some .int))
theorem md_X9_trouble : z_MD mX9_trouble 0 := ⟨(lw_good_at w_839 rfl), (lw_good_at w_32 rfl), by decide, by decide, by decide +kernel, by decide⟩
abbrev mX9_refused : zM := (yX9_refused, cX9_refused, 2, (some .int))
theorem md_X9_refused : z_MD mX9_refused 1 := ⟨(lw_good_at w_437 rfl), (lw_good_at w_32 rfl), by decide, by decide, by decide +kernel, by decide⟩
abbrev mX9_answered : zM := (yX9_answered, cX9_answered, 2, (some .int))
theorem md_X9_answered : z_MD mX9_answered 1 := ⟨(lw_good_at w_441 rfl), (lw_good_at w_32 rfl), by decide, by decide, by decide +kernel, by decide⟩
abbrev mX9_at : zM := (yX9_at, cX9_at, 2, (some (.object "GraphNames$Graph")))
theorem md_X9_at : z_MD mX9_at 1 := ⟨(lw_good_at w_433 rfl), (lw_good_at w_32 rfl), by decide, by decide, by decide +kernel, by decide⟩
abbrev mX9_searchOf : zM := (yX9_searchOf, cX9_searchOf, 3, (some (.object "GraphNames$Search")))
theorem md_X9_searchOf : z_MD mX9_searchOf 1 := ⟨(lw_good_at w_643 rfl), (lw_good_at w_32 rfl), by decide, by decide, by decide +kernel, by decide⟩
abbrev mX9_toldApart : zM := (yX9_toldApart, cX9_toldApart, 5, (some .int))
theorem md_X9_toldApart : z_MD mX9_toldApart 2 := ⟨(lw_good_at w_735 rfl), (lw_good_at w_32 rfl), by decide, by decide, by decide +kernel, by decide⟩
abbrev mX9_cellsWith : zM := (yX9_cellsWith, cX9_cellsWith, 4, (some .int))
theorem md_X9_cellsWith : z_MD mX9_cellsWith 2 := ⟨(lw_good_at w_1259 rfl), (lw_good_at w_32 rfl), by decide, by decide, by decide +kernel, by decide⟩
abbrev mX9_in : zM := (yX9_in, cX9_in, 2, (some .boolean))
theorem md_X9_in : z_MD mX9_in 2 := ⟨(lw_good_at w_591 rfl), (lw_good_at w_32 rfl), by decide, by decide, by decide +kernel, by decide⟩
abbrev mX9_sentTo : zM := (yX9_sentTo, cX9_sentTo, 2, (some .int))
theorem md_X9_sentTo : z_MD mX9_sentTo 2 := ⟨(lw_good_at w_609 rfl), (lw_good_at w_32 rfl), by decide, by decide, by decide +kernel, by decide⟩
abbrev mX10_init : zM := (yX10_init, cX10_init, 2, none)
theorem md_X10_init : z_MD mX10_init 1 := ⟨(lw_good_at w_844 rfl), (lw_good_at w_31 rfl), by decide, by decide, by decide +kernel, by decide⟩
abbrev mX10_next : zM := (yX10_next, cX10_next, 4, (some .int))
theorem md_X10_next : z_MD mX10_next 2 := ⟨(lw_good_at w_856 rfl), (lw_good_at w_31 rfl), by decide, by decide, by decide +kernel, by decide⟩
abbrev mJ5_init_d00df : zM := (yJ5_init_d00df, cJ5_init_d00df, 2, none)
theorem md_J5_init_d00df : z_MD mJ5_init_d00df 1 := ⟨(lw_good_at w_1231 rfl), (lw_good_at w_46 rfl), by decide, by decide, by decide +kernel, by decide⟩
abbrev mJ5_init_a7421 : zM := (yJ5_init_a7421, cJ5_init_a7421, 5, none)
theorem md_J5_init_a7421 : z_MD mJ5_init_a7421 1 := ⟨(lw_good_at w_1002 rfl), (lw_good_at w_46 rfl), by decide, by decide, by decide +kernel, by decide⟩
abbrev mJ5_length_8abf5 : zM := (yJ5_length_8abf5, cJ5_length_8abf5, 1, (some .int))
theorem md_J5_length_8abf5 : z_MD mJ5_length_8abf5 0 := ⟨(lw_good_at w_1192 rfl), (lw_good_at w_46 rfl), by decide, by decide, by decide +kernel, by decide⟩
abbrev mJ5_ensureCapacityInternal_d00df : zM := (yJ5_ensureCapacityInternal_d00df, cJ5_ensureCapacityInternal_d00df, 3, none)
theorem md_J5_ensureCapacityInternal_d00df : z_MD mJ5_ensureCapacityInternal_d00df 1 := ⟨(lw_good_at w_1035 rfl), (lw_good_at w_46 rfl), by decide, by decide, by decide +kernel, by decide⟩
abbrev mJ5_newCapacity_0f7a4 : zM := (yJ5_newCapacity_0f7a4, cJ5_newCapacity_0f7a4, 6, (some .int))
theorem md_J5_newCapacity_0f7a4 : z_MD mJ5_newCapacity_0f7a4 1 := ⟨(lw_good_at w_1039 rfl), (lw_good_at w_46 rfl), by decide, by decide, by decide +kernel, by decide⟩
abbrev mJ5_inflate_da8c8 : zM := (yJ5_inflate_da8c8, cJ5_inflate_da8c8, 2, none)
theorem md_J5_inflate_da8c8 : z_MD mJ5_inflate_da8c8 0 := ⟨(lw_good_at w_1092 rfl), (lw_good_at w_46 rfl), by decide, by decide, by decide +kernel, by decide⟩
abbrev mJ5_append_cf1ce : zM := (yJ5_append_cf1ce, cJ5_append_cf1ce, 3, (some (.object "java/lang/AbstractStringBuilder")))
theorem md_J5_append_cf1ce : z_MD mJ5_append_cf1ce 1 := ⟨(lw_good_at w_1027 rfl), (lw_good_at w_46 rfl), by decide, by decide, by decide +kernel, by decide⟩
abbrev mJ5_appendNull_278bc : zM := (yJ5_appendNull_278bc, cJ5_appendNull_278bc, 3, (some (.object "java/lang/AbstractStringBuilder")))
theorem md_J5_appendNull_278bc : z_MD mJ5_appendNull_278bc 0 := ⟨(lw_good_at w_1031 rfl), (lw_good_at w_46 rfl), by decide, by decide, by decide +kernel, by decide⟩
abbrev mJ5_append_3fe6f : zM := (yJ5_append_3fe6f, cJ5_append_3fe6f, 2, (some (.object "java/lang/AbstractStringBuilder")))
theorem md_J5_append_3fe6f : z_MD mJ5_append_3fe6f 1 := ⟨(lw_good_at w_1159 rfl), (lw_good_at w_46 rfl), by decide, by decide, by decide +kernel, by decide⟩
abbrev mJ5_append_c97b9 : zM := (yJ5_append_c97b9, cJ5_append_c97b9, 4, (some (.object "java/lang/AbstractStringBuilder")))
theorem md_J5_append_c97b9 : z_MD mJ5_append_c97b9 1 := ⟨(lw_good_at w_1132 rfl), (lw_good_at w_46 rfl), by decide, by decide, by decide +kernel, by decide⟩
abbrev mJ5_getValue_6d5f1 : zM := (yJ5_getValue_6d5f1, cJ5_getValue_6d5f1, 1, (some (.array .byte)))
theorem md_J5_getValue_6d5f1 : z_MD mJ5_getValue_6d5f1 0 := ⟨(lw_good_at w_1184 rfl), (lw_good_at w_46 rfl), by decide, by decide, by decide +kernel, by decide⟩
abbrev mJ5_isLatin1_aae02 : zM := (yJ5_isLatin1_aae02, cJ5_isLatin1_aae02, 1, (some .boolean))
theorem md_J5_isLatin1_aae02 : z_MD mJ5_isLatin1_aae02 0 := ⟨(lw_good_at w_1064 rfl), (lw_good_at w_46 rfl), by decide, by decide, by decide +kernel, by decide⟩
abbrev mJ5_inflateIfNeededFor_a7421 : zM := (yJ5_inflateIfNeededFor_a7421, cJ5_inflateIfNeededFor_a7421, 2, none)
theorem md_J5_inflateIfNeededFor_a7421 : z_MD mJ5_inflateIfNeededFor_a7421 1 := ⟨(lw_good_at w_1088 rfl), (lw_good_at w_46 rfl), by decide, by decide, by decide +kernel, by decide⟩
abbrev mJ5_putStringAt_47b60 : zM := (yJ5_putStringAt_47b60, cJ5_putStringAt_47b60, 3, none)
theorem md_J5_putStringAt_47b60 : z_MD mJ5_putStringAt_47b60 2 := ⟨(lw_good_at w_1084 rfl), (lw_good_at w_46 rfl), by decide, by decide, by decide +kernel, by decide⟩
abbrev mJ6_getChars_ba4f3 : zM := (yJ6_getChars_ba4f3, cJ6_getChars_ba4f3, 7, (some .int))
theorem md_J6_getChars_ba4f3 : z_MD mJ6_getChars_ba4f3 3 := ⟨(lw_good_at w_1138 rfl), (lw_good_at w_43 rfl), by decide, by decide, by decide +kernel, by decide⟩
abbrev mJ6_stringSize_0f7a4 : zM := (yJ6_stringSize_0f7a4, cJ6_stringSize_0f7a4, 4, (some .int))
theorem md_J6_stringSize_0f7a4 : z_MD mJ6_stringSize_0f7a4 1 := ⟨(lw_good_at w_1135 rfl), (lw_good_at w_43 rfl), by decide, by decide, by decide +kernel, by decide⟩
abbrev mJ6_compare_7cf53 : zM := (yJ6_compare_7cf53, cJ6_compare_7cf53, 2, (some .int))
theorem md_J6_compare_7cf53 : z_MD mJ6_compare_7cf53 2 := ⟨(lw_good_at w_574 rfl), (lw_good_at w_43 rfl), by decide, by decide, by decide +kernel, by decide⟩
abbrev mJ6_numberOfTrailingZeros_0f7a4 : zM := (yJ6_numberOfTrailingZeros_0f7a4, cJ6_numberOfTrailingZeros_0f7a4, 2, (some .int))
theorem md_J6_numberOfTrailingZeros_0f7a4 : z_MD mJ6_numberOfTrailingZeros_0f7a4 1 := ⟨(lw_good_at w_552 rfl), (lw_good_at w_43 rfl), by decide, by decide, by decide +kernel, by decide⟩
abbrev mJ6_bitCount_0f7a4 : zM := (yJ6_bitCount_0f7a4, cJ6_bitCount_0f7a4, 1, (some .int))
theorem md_J6_bitCount_0f7a4 : z_MD mJ6_bitCount_0f7a4 1 := ⟨(lw_good_at w_448 rfl), (lw_good_at w_43 rfl), by decide, by decide, by decide +kernel, by decide⟩
abbrev mJ9_max_7cf53 : zM := (yJ9_max_7cf53, cJ9_max_7cf53, 2, (some .int))
theorem md_J9_max_7cf53 : z_MD mJ9_max_7cf53 2 := ⟨(lw_good_at w_462 rfl), (lw_good_at w_44 rfl), by decide, by decide, by decide +kernel, by decide⟩
abbrev mJ9_min_7cf53 : zM := (yJ9_min_7cf53, cJ9_min_7cf53, 2, (some .int))
theorem md_J9_min_7cf53 : z_MD mJ9_min_7cf53 2 := ⟨(lw_good_at w_571 rfl), (lw_good_at w_44 rfl), by decide, by decide, by decide +kernel, by decide⟩
abbrev mJ0_init_81219 : zM := (yJ0_init_81219, cJ0_init_81219, 2, none)
theorem md_J0_init_81219 : z_MD mJ0_init_81219 1 := ⟨(lw_good_at w_1175 rfl), (lw_good_at w_48 rfl), by decide, by decide, by decide +kernel, by decide⟩
abbrev mJ0_length_8abf5 : zM := (yJ0_length_8abf5, cJ0_length_8abf5, 1, (some .int))
theorem md_J0_length_8abf5 : z_MD mJ0_length_8abf5 0 := ⟨(lw_good_at w_864 rfl), (lw_good_at w_48 rfl), by decide, by decide, by decide +kernel, by decide⟩
abbrev mJ0_charAt_5068e : zM := (yJ0_charAt_5068e, cJ0_charAt_5068e, 2, (some .char))
theorem md_J0_charAt_5068e : z_MD mJ0_charAt_5068e 1 := ⟨(lw_good_at w_874 rfl), (lw_good_at w_48 rfl), by decide, by decide, by decide +kernel, by decide⟩
abbrev mJ0_getBytes_840e7 : zM := (yJ0_getBytes_840e7, cJ0_getBytes_840e7, 4, none)
theorem md_J0_getBytes_840e7 : z_MD mJ0_getBytes_840e7 3 := ⟨(lw_good_at w_1111 rfl), (lw_good_at w_48 rfl), by decide, by decide, by decide +kernel, by decide⟩
abbrev mJ0_init_db425 : zM := (yJ0_init_db425, cJ0_init_db425, 5, none)
theorem md_J0_init_db425 : z_MD mJ0_init_db425 2 := ⟨(lw_good_at w_1178 rfl), (lw_good_at w_48 rfl), by decide, by decide, by decide +kernel, by decide⟩
abbrev mJ0_coder_7d493 : zM := (yJ0_coder_7d493, cJ0_coder_7d493, 1, (some .byte))
theorem md_J0_coder_7d493 : z_MD mJ0_coder_7d493 0 := ⟨(lw_good_at w_868 rfl), (lw_good_at w_48 rfl), by decide, by decide, by decide +kernel, by decide⟩
abbrev mJ0_isLatin1_aae02 : zM := (yJ0_isLatin1_aae02, cJ0_isLatin1_aae02, 1, (some .boolean))
theorem md_J0_isLatin1_aae02 : z_MD mJ0_isLatin1_aae02 0 := ⟨(lw_good_at w_878 rfl), (lw_good_at w_48 rfl), by decide, by decide, by decide +kernel, by decide⟩
abbrev mJ0_checkIndex_df160 : zM := (yJ0_checkIndex_df160, cJ0_checkIndex_df160, 2, none)
theorem md_J0_checkIndex_df160 : z_MD mJ0_checkIndex_df160 2 := ⟨(lw_good_at w_884 rfl), (lw_good_at w_48 rfl), by decide, by decide, by decide +kernel, by decide⟩
abbrev mJ0_checkBoundsOffCount_cabcc : zM := (yJ0_checkBoundsOffCount_cabcc, cJ0_checkBoundsOffCount_cabcc, 3, (some .int))
theorem md_J0_checkBoundsOffCount_cabcc : z_MD mJ0_checkBoundsOffCount_cabcc 3 := ⟨(lw_good_at w_1104 rfl), (lw_good_at w_48 rfl), by decide, by decide, by decide +kernel, by decide⟩
abbrev mJ0_checkBoundsBeginEnd_23922 : zM := (yJ0_checkBoundsBeginEnd_23922, cJ0_checkBoundsBeginEnd_23922, 3, none)
theorem md_J0_checkBoundsBeginEnd_23922 : z_MD mJ0_checkBoundsBeginEnd_23922 3 := ⟨(lw_good_at w_1074 rfl), (lw_good_at w_48 rfl), by decide, by decide, by decide +kernel, by decide⟩
abbrev mJ4_init_da8c8 : zM := (yJ4_init_da8c8, cJ4_init_da8c8, 1, none)
theorem md_J4_init_da8c8 : z_MD mJ4_init_da8c8 0 := ⟨(lw_good_at w_1228 rfl), (lw_good_at w_47 rfl), by decide, by decide, by decide +kernel, by decide⟩
abbrev mJ4_init_a7421 : zM := (yJ4_init_a7421, cJ4_init_a7421, 2, none)
theorem md_J4_init_a7421 : z_MD mJ4_init_a7421 1 := ⟨(lw_good_at w_999 rfl), (lw_good_at w_47 rfl), by decide, by decide, by decide +kernel, by decide⟩
abbrev mJ4_append_15ec4 : zM := (yJ4_append_15ec4, cJ4_append_15ec4, 2, (some (.object "java/lang/StringBuilder")))
theorem md_J4_append_15ec4 : z_MD mJ4_append_15ec4 1 := ⟨(lw_good_at w_1024 rfl), (lw_good_at w_47 rfl), by decide, by decide, by decide +kernel, by decide⟩
abbrev mJ4_append_cf468 : zM := (yJ4_append_cf468, cJ4_append_cf468, 2, (some (.object "java/lang/StringBuilder")))
theorem md_J4_append_cf468 : z_MD mJ4_append_cf468 1 := ⟨(lw_good_at w_1156 rfl), (lw_good_at w_47 rfl), by decide, by decide, by decide +kernel, by decide⟩
abbrev mJ4_append_bf812 : zM := (yJ4_append_bf812, cJ4_append_bf812, 2, (some (.object "java/lang/StringBuilder")))
theorem md_J4_append_bf812 : z_MD mJ4_append_bf812 1 := ⟨(lw_good_at w_1129 rfl), (lw_good_at w_47 rfl), by decide, by decide, by decide +kernel, by decide⟩
abbrev mJ4_toString_0e30d : zM := (yJ4_toString_0e30d, cJ4_toString_0e30d, 1, (some (.object "java/lang/String")))
theorem md_J4_toString_0e30d : z_MD mJ4_toString_0e30d 0 := ⟨(lw_good_at w_1170 rfl), (lw_good_at w_47 rfl), by decide, by decide, by decide +kernel, by decide⟩
abbrev mJ4_append_cf1ce : zM := (yJ4_append_cf1ce, cJ4_append_cf1ce, 2, (some (.object "java/lang/AbstractStringBuilder")))
theorem md_J4_append_cf1ce : z_MD mJ4_append_cf1ce 1 := ⟨(lw_good_at w_1020 rfl), (lw_good_at w_47 rfl), by decide, by decide, by decide +kernel, by decide⟩
abbrev mJ4_length_8abf5 : zM := (yJ4_length_8abf5, cJ4_length_8abf5, 1, (some .int))
theorem md_J4_length_8abf5 : z_MD mJ4_length_8abf5 0 := ⟨(lw_good_at w_1190 rfl), (lw_good_at w_47 rfl), by decide, by decide, by decide +kernel, by decide⟩
abbrev mJ1_charAt_3b067 : zM := (yJ1_charAt_3b067, cJ1_charAt_3b067, 2, (some .char))
theorem md_J1_charAt_3b067 : z_MD mJ1_charAt_3b067 2 := ⟨(lw_good_at w_881 rfl), (lw_good_at w_53 rfl), by decide, by decide, by decide +kernel, by decide⟩
abbrev mJ1_canEncode_fc78d : zM := (yJ1_canEncode_fc78d, cJ1_canEncode_fc78d, 1, (some .boolean))
theorem md_J1_canEncode_fc78d : z_MD mJ1_canEncode_fc78d 1 := ⟨(lw_good_at w_1162 rfl), (lw_good_at w_53 rfl), by decide, by decide, by decide +kernel, by decide⟩
abbrev mJ1_inflate_0e8fd : zM := (yJ1_inflate_0e8fd, cJ1_inflate_0e8fd, 5, none)
theorem md_J1_inflate_0e8fd : z_MD mJ1_inflate_0e8fd 5 := ⟨(lw_good_at w_1095 rfl), (lw_good_at w_53 rfl), by decide, by decide, by decide +kernel, by decide⟩
abbrev mJ2_newBytesFor_77867 : zM := (yJ2_newBytesFor_77867, cJ2_newBytesFor_77867, 1, (some (.array .byte)))
theorem md_J2_newBytesFor_77867 : z_MD mJ2_newBytesFor_77867 1 := ⟨(lw_good_at w_1010 rfl), (lw_good_at w_49 rfl), by decide, by decide, by decide +kernel, by decide⟩
abbrev mJ2_newBytesLength_0f7a4 : zM := (yJ2_newBytesLength_0f7a4, cJ2_newBytesLength_0f7a4, 1, (some .int))
theorem md_J2_newBytesLength_0f7a4 : z_MD mJ2_newBytesLength_0f7a4 1 := ⟨(lw_good_at w_1013 rfl), (lw_good_at w_49 rfl), by decide, by decide, by decide +kernel, by decide⟩
abbrev mJ2_putChar_b72d1 : zM := (yJ2_putChar_b72d1, cJ2_putChar_b72d1, 3, none)
theorem md_J2_putChar_b72d1 : z_MD mJ2_putChar_b72d1 3 := ⟨(lw_good_at w_1080 rfl), (lw_good_at w_49 rfl), by decide, by decide, by decide +kernel, by decide⟩
abbrev mJ2_getChar_3b067 : zM := (yJ2_getChar_3b067, cJ2_getChar_3b067, 2, (some .char))
theorem md_J2_getChar_3b067 : z_MD mJ2_getChar_3b067 2 := ⟨(lw_good_at w_902 rfl), (lw_good_at w_49 rfl), by decide, by decide, by decide +kernel, by decide⟩
abbrev mJ2_length_9d52b : zM := (yJ2_length_9d52b, cJ2_length_9d52b, 1, (some .int))
theorem md_J2_length_9d52b : z_MD mJ2_length_9d52b 1 := ⟨(lw_good_at w_898 rfl), (lw_good_at w_49 rfl), by decide, by decide, by decide +kernel, by decide⟩
abbrev mJ2_coderFromArrayLen_85cad : zM := (yJ2_coderFromArrayLen_85cad, cJ2_coderFromArrayLen_85cad, 2, (some .byte))
theorem md_J2_coderFromArrayLen_85cad : z_MD mJ2_coderFromArrayLen_85cad 2 := ⟨(lw_good_at w_1212 rfl), (lw_good_at w_49 rfl), by decide, by decide, by decide +kernel, by decide⟩
abbrev mJ2_compress_39247 : zM := (yJ2_compress_39247, cJ2_compress_39247, 6, (some (.array .byte)))
theorem md_J2_compress_39247 : z_MD mJ2_compress_39247 3 := ⟨(lw_good_at w_1205 rfl), (lw_good_at w_49 rfl), by decide, by decide, by decide +kernel, by decide⟩
abbrev mJ2_compress_5af95 : zM := (yJ2_compress_5af95, cJ2_compress_5af95, 7, (some .int))
theorem md_J2_compress_5af95 : z_MD mJ2_compress_5af95 5 := ⟨(lw_good_at w_1208 rfl), (lw_good_at w_49 rfl), by decide, by decide, by decide +kernel, by decide⟩
abbrev mJ2_putCharSB_b72d1 : zM := (yJ2_putCharSB_b72d1, cJ2_putCharSB_b72d1, 3, none)
theorem md_J2_putCharSB_b72d1 : z_MD mJ2_putCharSB_b72d1 3 := ⟨(lw_good_at w_1165 rfl), (lw_good_at w_49 rfl), by decide, by decide, by decide +kernel, by decide⟩
abbrev mJ2_getChars_46870 : zM := (yJ2_getChars_46870, cJ2_getChars_46870, 5, (some .int))
theorem md_J2_getChars_46870 : z_MD mJ2_getChars_46870 4 := ⟨(lw_good_at w_1145 rfl), (lw_good_at w_49 rfl), by decide, by decide, by decide +kernel, by decide⟩
abbrev mJ2_putCharsAt_cd4e5 : zM := (yJ2_putCharsAt_cd4e5, cJ2_putCharsAt_cd4e5, 7, (some .int))
theorem md_J2_putCharsAt_cd4e5 : z_MD mJ2_putCharsAt_cd4e5 6 := ⟨(lw_good_at w_1068 rfl), (lw_good_at w_49 rfl), by decide, by decide, by decide +kernel, by decide⟩
abbrev mJ2_charAt_3b067 : zM := (yJ2_charAt_3b067, cJ2_charAt_3b067, 2, (some .char))
theorem md_J2_charAt_3b067 : z_MD mJ2_charAt_3b067 2 := ⟨(lw_good_at w_892 rfl), (lw_good_at w_49 rfl), by decide, by decide, by decide +kernel, by decide⟩
abbrev mJ2_inflate_0e8fd : zM := (yJ2_inflate_0e8fd, cJ2_inflate_0e8fd, 6, none)
theorem md_J2_inflate_0e8fd : z_MD mJ2_inflate_0e8fd 5 := ⟨(lw_good_at w_1098 rfl), (lw_good_at w_49 rfl), by decide, by decide, by decide +kernel, by decide⟩
abbrev mJ2_getChars_ba4f3 : zM := (yJ2_getChars_ba4f3, cJ2_getChars_ba4f3, 7, (some .int))
theorem md_J2_getChars_ba4f3 : z_MD mJ2_getChars_ba4f3 3 := ⟨(lw_good_at w_1148 rfl), (lw_good_at w_49 rfl), by decide, by decide, by decide +kernel, by decide⟩
abbrev mJ2_checkIndex_2214a : zM := (yJ2_checkIndex_2214a, cJ2_checkIndex_2214a, 2, none)
theorem md_J2_checkIndex_2214a : z_MD mJ2_checkIndex_2214a 2 := ⟨(lw_good_at w_895 rfl), (lw_good_at w_49 rfl), by decide, by decide, by decide +kernel, by decide⟩
abbrev mJ2_checkBoundsBeginEnd_d044e : zM := (yJ2_checkBoundsBeginEnd_d044e, cJ2_checkBoundsBeginEnd_d044e, 3, none)
theorem md_J2_checkBoundsBeginEnd_d044e : z_MD mJ2_checkBoundsBeginEnd_d044e 3 := ⟨(lw_good_at w_1071 rfl), (lw_good_at w_49 rfl), by decide, by decide, by decide +kernel, by decide⟩
abbrev mJ2_checkBoundsOffCount_d044e : zM := (yJ2_checkBoundsOffCount_d044e, cJ2_checkBoundsOffCount_d044e, 3, none)
theorem md_J2_checkBoundsOffCount_d044e : z_MD mJ2_checkBoundsOffCount_d044e 3 := ⟨(lw_good_at w_1101 rfl), (lw_good_at w_49 rfl), by decide, by decide, by decide +kernel, by decide⟩
abbrev mJ7_copyOf_9075b : zM := (yJ7_copyOf_9075b, cJ7_copyOf_9075b, 3, (some (.array .byte)))
theorem md_J7_copyOf_9075b : z_MD mJ7_copyOf_9075b 2 := ⟨(lw_good_at w_1050 rfl), (lw_good_at w_51 rfl), by decide, by decide, by decide +kernel, by decide⟩
abbrev mJ7_checkLength_df160 : zM := (yJ7_checkLength_df160, cJ7_checkLength_df160, 2, none)
theorem md_J7_checkLength_df160 : z_MD mJ7_checkLength_df160 2 := ⟨(lw_good_at w_1202 rfl), (lw_good_at w_51 rfl), by decide, by decide, by decide +kernel, by decide⟩
abbrev mJ7_copyOfRange_39247 : zM := (yJ7_copyOfRange_39247, cJ7_copyOfRange_39247, 3, (some (.array .byte)))
theorem md_J7_copyOfRange_39247 : z_MD mJ7_copyOfRange_39247 3 := ⟨(lw_good_at w_1196 rfl), (lw_good_at w_51 rfl), by decide, by decide, by decide +kernel, by decide⟩
abbrev mJ7_copyOfRangeByte_39247 : zM := (yJ7_copyOfRangeByte_39247, cJ7_copyOfRangeByte_39247, 5, (some (.array .byte)))
theorem md_J7_copyOfRangeByte_39247 : z_MD mJ7_copyOfRangeByte_39247 3 := ⟨(lw_good_at w_1199 rfl), (lw_good_at w_51 rfl), by decide, by decide, by decide +kernel, by decide⟩
abbrev mJ8_newLength_cabcc : zM := (yJ8_newLength_cabcc, cJ8_newLength_cabcc, 4, (some .int))
theorem md_J8_newLength_cabcc : z_MD mJ8_newLength_cabcc 3 := ⟨(lw_good_at w_1042 rfl), (lw_good_at w_50 rfl), by decide, by decide, by decide +kernel, by decide⟩
abbrev mJ8_hugeLength_7cf53 : zM := (yJ8_hugeLength_7cf53, cJ8_hugeLength_7cf53, 3, (some .int))
theorem md_J8_hugeLength_7cf53 : z_MD mJ8_hugeLength_7cf53 2 := ⟨(lw_good_at w_1047 rfl), (lw_good_at w_50 rfl), by decide, by decide, by decide +kernel, by decide⟩
abbrev mJ3_checkIndex_8e157 : zM := (yJ3_checkIndex_8e157, cJ3_checkIndex_8e157, 3, (some .int))
theorem md_J3_checkIndex_8e157 : z_MD mJ3_checkIndex_8e157 3 := ⟨(lw_good_at w_889 rfl), (lw_good_at w_52 rfl), by decide, by decide, by decide +kernel, by decide⟩
abbrev mJ3_checkFromToIndex_8c36e : zM := (yJ3_checkFromToIndex_8c36e, cJ3_checkFromToIndex_8c36e, 4, (some .int))
theorem md_J3_checkFromToIndex_8c36e : z_MD mJ3_checkFromToIndex_8c36e 4 := ⟨(lw_good_at w_1077 rfl), (lw_good_at w_52 rfl), by decide, by decide, by decide +kernel, by decide⟩
abbrev mJ3_checkFromIndexSize_8c36e : zM := (yJ3_checkFromIndexSize_8c36e, cJ3_checkFromIndexSize_8c36e, 4, (some .int))
theorem md_J3_checkFromIndexSize_8c36e : z_MD mJ3_checkFromIndexSize_8c36e 4 := ⟨(lw_good_at w_1107 rfl), (lw_good_at w_52 rfl), by decide, by decide, by decide +kernel, by decide⟩
abbrev mL_tell : zM := (yL_tell, cL_tell, 6, (some .int))
theorem md_L_tell : z_MD mL_tell 3 := ⟨(lw_good_at w_860 rfl), (lw_good_at w_30 rfl), by decide, by decide, by decide +kernel, by decide⟩
abbrev mL_text : zM := (yL_text, cL_text, 10, (some (.object "java/lang/String")))
theorem md_L_text : z_MD mL_text 2 := ⟨(lw_good_at w_993 rfl), (lw_good_at w_30 rfl), by decide, by decide, by decide +kernel, by decide⟩
abbrev mL_seen : zM := (yL_seen, cL_seen, 7, (some .int))
theorem md_L_seen : z_MD mL_seen 5 := ⟨(lw_good_at w_1251 rfl), (lw_good_at w_30 rfl), by decide, by decide, by decide +kernel, by decide⟩
abbrev mL_cells : zM := (yL_cells, cL_cells, 13, (some .boolean))
theorem md_L_cells : z_MD mL_cells 2 := ⟨(lw_good_at w_1235 rfl), (lw_good_at w_30 rfl), by decide, by decide, by decide +kernel, by decide⟩
abbrev mL_name : zM := (yL_name, cL_name, 7, (some .boolean))
theorem md_L_name : z_MD mL_name 2 := ⟨(lw_good_at w_1265 rfl), (lw_good_at w_30 rfl), by decide, by decide, by decide +kernel, by decide⟩
theorem lk_X0_35 : z_LV "GraphNames$Cells" 35 "GraphNames$Cells" mX0_byColours := ⟨(lw_good_at w_514 rfl), (lw_good_at w_453 rfl), (lw_good_at w_454 rfl)⟩
theorem lk_X0_39 : z_LV "GraphNames$Cells" 39 "GraphNames$Cells" mX0_refine := ⟨(lw_good_at w_515 rfl), (lw_good_at w_516 rfl), (lw_good_at w_517 rfl)⟩
theorem lk_X0_48 : z_LV "GraphNames$Cells" 48 "GraphNames$Cells" mX0_divide := ⟨(lw_good_at w_519 rfl), (lw_good_at w_520 rfl), (lw_good_at w_521 rfl)⟩
theorem lk_X0_52 : z_LV "GraphNames$Cells" 52 "GraphNames$Cells" mX0_signOf := ⟨(lw_good_at w_523 rfl), (lw_good_at w_525 rfl), (lw_good_at w_3 rfl)⟩
theorem lk_X0_56 : z_LV "GraphNames$Cells" 56 "GraphNames$Cells" mX0_split := ⟨(lw_good_at w_528 rfl), (lw_good_at w_530 rfl), (lw_good_at w_4 rfl)⟩
theorem lk_X0_70 : z_LS "GraphNames$Cells" 70 mJ6_bitCount_0f7a4 := ⟨(lw_good_at w_447 rfl), Or.inl (lw_good_at w_527 rfl)⟩
theorem lk_X0_78 : z_LS "GraphNames$Cells" 78 mX9_in := ⟨(lw_good_at w_590 rfl), Or.inr ⟨"GraphNames", (lw_nest_at w_625 rfl)⟩⟩
theorem lk_X1_27 : z_LS "GraphNames$Graph" 27 mJ6_bitCount_0f7a4 := ⟨(lw_good_at w_447 rfl), Or.inl (lw_good_at w_446 rfl)⟩
theorem lk_X1_33 : z_LS "GraphNames$Graph" 33 mJ9_max_7cf53 := ⟨(lw_good_at w_461 rfl), Or.inl (lw_good_at w_460 rfl)⟩
theorem lk_X1_39 : z_LV "GraphNames$Graph" 39 "GraphNames$Graph" mX1_join := ⟨(lw_good_at w_762 rfl), (lw_good_at w_763 rfl), (lw_good_at w_764 rfl)⟩
theorem lk_X1_47 : z_LV "GraphNames$Graph" 47 "GraphNames$Graph" mX1_exchange := ⟨(lw_good_at w_758 rfl), (lw_good_at w_759 rfl), (lw_good_at w_760 rfl)⟩
theorem lk_X2_38 : z_LS "GraphNames$Leaf" 38 mJ6_numberOfTrailingZeros_0f7a4 := ⟨(lw_good_at w_551 rfl), Or.inl (lw_good_at w_550 rfl)⟩
theorem lk_X2_51 : z_LS "GraphNames$Leaf" 51 mJ9_min_7cf53 := ⟨(lw_good_at w_570 rfl), Or.inl (lw_good_at w_569 rfl)⟩
theorem lk_X2_57 : z_LS "GraphNames$Leaf" 57 mJ6_compare_7cf53 := ⟨(lw_good_at w_573 rfl), Or.inl (lw_good_at w_572 rfl)⟩
theorem lk_X2_60 : z_LV "GraphNames$Leaf" 60 "GraphNames$Leaf" mX2_compareCodes := ⟨(lw_good_at w_575 rfl), (lw_good_at w_576 rfl), (lw_good_at w_577 rfl)⟩
theorem lk_X3_24 : z_LI "GraphNames$Pairing" 24 mX1_init := ⟨(lw_good_at w_81 rfl), by decide, rfl, Or.inr ⟨"GraphNames", (lw_nest_at w_213 rfl)⟩⟩
theorem lk_X3_41 : z_LV "GraphNames$Pairing" 41 "GraphNames$Graph" mX1_take := ⟨(lw_good_at w_669 rfl), (lw_good_at w_495 rfl), (lw_good_at w_496 rfl)⟩
theorem lk_X3_48 : z_LV "GraphNames$Pairing" 48 "GraphNames$Pairing" mX3_send := ⟨(lw_good_at w_670 rfl), (lw_good_at w_672 rfl), (lw_good_at w_10 rfl)⟩
theorem lk_X3_52 : z_LV "GraphNames$Pairing" 52 "GraphNames$Pairing" mX3_note := ⟨(lw_good_at w_674 rfl), (lw_good_at w_676 rfl), (lw_good_at w_11 rfl)⟩
theorem lk_X3_55 : z_LS "GraphNames$Pairing" 55 mX9_in := ⟨(lw_good_at w_590 rfl), Or.inr ⟨"GraphNames", (lw_nest_at w_679 rfl)⟩⟩
theorem lk_X3_59 : z_LV "GraphNames$Pairing" 59 "GraphNames$Pairing" mX3_fits := ⟨(lw_good_at w_680 rfl), (lw_good_at w_682 rfl), (lw_good_at w_12 rfl)⟩
theorem lk_X3_62 : z_LV "GraphNames$Pairing" 62 "GraphNames$Pairing" mX3_unlike := ⟨(lw_good_at w_684 rfl), (lw_good_at w_686 rfl), (lw_good_at w_13 rfl)⟩
theorem lk_X3_79 : z_LV "GraphNames$Pairing" 79 "GraphNames$Pairing" mX3_weigh := ⟨(lw_good_at w_724 rfl), (lw_good_at w_726 rfl), (lw_good_at w_14 rfl)⟩
theorem lk_X4_28 : z_LI "GraphNames$Past" 28 mX1_init := ⟨(lw_good_at w_81 rfl), by decide, rfl, Or.inr ⟨"GraphNames", (lw_nest_at w_158 rfl)⟩⟩
theorem lk_X4_29 : z_LV "GraphNames$Past" 29 "GraphNames$Graph" mX1_take := ⟨(lw_good_at w_750 rfl), (lw_good_at w_495 rfl), (lw_good_at w_496 rfl)⟩
theorem lk_X4_33 : z_LS "GraphNames$Past" 33 mJ9_min_7cf53 := ⟨(lw_good_at w_570 rfl), Or.inl (lw_good_at w_751 rfl)⟩
theorem lk_X5_23 : z_LI "GraphNames$Reader" 23 mX1_init := ⟨(lw_good_at w_81 rfl), by decide, rfl, Or.inr ⟨"GraphNames", (lw_nest_at w_80 rfl)⟩⟩
theorem lk_X5_47 : z_LV "GraphNames$Reader" 47 "GraphNames$Reader" mX5_step := ⟨(lw_good_at w_925 rfl), (lw_good_at w_927 rfl), (lw_good_at w_17 rfl)⟩
theorem lk_X5_50 : z_LV "GraphNames$Reader" 50 "GraphNames$Reader" mX5_readSize := ⟨(lw_good_at w_932 rfl), (lw_good_at w_934 rfl), (lw_good_at w_18 rfl)⟩
theorem lk_X5_54 : z_LV "GraphNames$Reader" 54 "GraphNames$Reader" mX5_readLines := ⟨(lw_good_at w_955 rfl), (lw_good_at w_957 rfl), (lw_good_at w_22 rfl)⟩
theorem lk_X5_59 : z_LV "GraphNames$Reader" 59 "GraphNames$Reader" mX5_isWord := ⟨(lw_good_at w_937 rfl), (lw_good_at w_939 rfl), (lw_good_at w_19 rfl)⟩
theorem lk_X5_63 : z_LV "GraphNames$Reader" 63 "GraphNames$Reader" mX5_fails := ⟨(lw_good_at w_943 rfl), (lw_good_at w_945 rfl), (lw_good_at w_20 rfl)⟩
theorem lk_X5_67 : z_LV "GraphNames$Reader" 67 "GraphNames$Reader" mX5_digit := ⟨(lw_good_at w_947 rfl), (lw_good_at w_949 rfl), (lw_good_at w_21 rfl)⟩
theorem lk_X5_71 : z_LV "GraphNames$Reader" 71 "GraphNames$Graph" mX1_empty := ⟨(lw_good_at w_951 rfl), (lw_good_at w_952 rfl), (lw_good_at w_953 rfl)⟩
theorem lk_X5_75 : z_LV "GraphNames$Reader" 75 "GraphNames$Reader" mX5_readLine := ⟨(lw_good_at w_959 rfl), (lw_good_at w_961 rfl), (lw_good_at w_23 rfl)⟩
theorem lk_X5_80 : z_LV "GraphNames$Reader" 80 "GraphNames$Reader" mX5_readPaint := ⟨(lw_good_at w_964 rfl), (lw_good_at w_966 rfl), (lw_good_at w_24 rfl)⟩
theorem lk_X5_85 : z_LV "GraphNames$Reader" 85 "GraphNames$Reader" mX5_readLink := ⟨(lw_good_at w_975 rfl), (lw_good_at w_977 rfl), (lw_good_at w_26 rfl)⟩
theorem lk_X5_90 : z_LV "GraphNames$Reader" 90 "GraphNames$Reader" mX5_readChain := ⟨(lw_good_at w_985 rfl), (lw_good_at w_987 rfl), (lw_good_at w_28 rfl)⟩
theorem lk_X5_96 : z_LV "GraphNames$Reader" 96 "GraphNames$Reader" mX5_isVertex := ⟨(lw_good_at w_968 rfl), (lw_good_at w_970 rfl), (lw_good_at w_25 rfl)⟩
theorem lk_X5_99 : z_LS "GraphNames$Reader" 99 mX9_in := ⟨(lw_good_at w_590 rfl), Or.inr ⟨"GraphNames", (lw_nest_at w_973 rfl)⟩⟩
theorem lk_X5_106 : z_LV "GraphNames$Reader" 106 "GraphNames$Reader" mX5_joins := ⟨(lw_good_at w_979 rfl), (lw_good_at w_981 rfl), (lw_good_at w_27 rfl)⟩
theorem lk_X5_109 : z_LV "GraphNames$Reader" 109 "GraphNames$Graph" mX1_join := ⟨(lw_good_at w_983 rfl), (lw_good_at w_763 rfl), (lw_good_at w_764 rfl)⟩
theorem lk_X5_117 : z_LV "GraphNames$Reader" 117 "GraphNames$Graph" mX1_has := ⟨(lw_good_at w_972 rfl), (lw_good_at w_468 rfl), (lw_good_at w_469 rfl)⟩
theorem lk_X5_120 : z_LV "GraphNames$Reader" 120 "java/lang/String" mJ0_length_8abf5 := ⟨(lw_good_at w_941 rfl), (lw_good_at w_862 rfl), (lw_good_at w_863 rfl)⟩
theorem lk_X5_125 : z_LV "GraphNames$Reader" 125 "java/lang/String" mJ0_charAt_5068e := ⟨(lw_good_at w_942 rfl), (lw_good_at w_872 rfl), (lw_good_at w_873 rfl)⟩
theorem lk_X5_129 : z_LS "GraphNames$Reader" 129 mX5_isLetter := ⟨(lw_good_at w_930 rfl), Or.inl (lw_good_at w_929 rfl)⟩
theorem lk_X6_3 : z_LI "GraphNames$Search" 3 mX8_init := ⟨(lw_good_at w_248 rfl), by decide, rfl, Or.inl (lw_good_at w_247 rfl)⟩
theorem lk_X6_24 : z_LI "GraphNames$Search" 24 mX2_init := ⟨(lw_good_at w_258 rfl), by decide, rfl, Or.inr ⟨"GraphNames", (lw_nest_at w_287 rfl)⟩⟩
theorem lk_X6_29 : z_LV "GraphNames$Search" 29 "GraphNames$Search" mX6_spread := ⟨(lw_good_at w_598 rfl), (lw_good_at w_600 rfl), (lw_good_at w_6 rfl)⟩
theorem lk_X6_33 : z_LS "GraphNames$Search" 33 mX9_in := ⟨(lw_good_at w_590 rfl), Or.inr ⟨"GraphNames", (lw_nest_at w_606 rfl)⟩⟩
theorem lk_X6_37 : z_LV "GraphNames$Search" 37 "GraphNames$Search" mX6_leavesAlone := ⟨(lw_good_at w_602 rfl), (lw_good_at w_604 rfl), (lw_good_at w_7 rfl)⟩
theorem lk_X6_40 : z_LV "GraphNames$Search" 40 "GraphNames$Search" mX6_imageOf := ⟨(lw_good_at w_610 rfl), (lw_good_at w_612 rfl), (lw_good_at w_8 rfl)⟩
theorem lk_X6_52 : z_LS "GraphNames$Search" 52 mX9_sentTo := ⟨(lw_good_at w_608 rfl), Or.inr ⟨"GraphNames", (lw_nest_at w_607 rfl)⟩⟩
theorem lk_X6_67 : z_LV "GraphNames$Search" 67 "GraphNames$Leaf" mX2_take := ⟨(lw_good_at w_560 rfl), (lw_good_at w_561 rfl), (lw_good_at w_562 rfl)⟩
theorem lk_X6_71 : z_LV "GraphNames$Search" 71 "GraphNames$Leaf" mX2_compare := ⟨(lw_good_at w_565 rfl), (lw_good_at w_566 rfl), (lw_good_at w_567 rfl)⟩
theorem lk_X6_75 : z_LV "GraphNames$Search" 75 "GraphNames$Search" mX6_note := ⟨(lw_good_at w_579 rfl), (lw_good_at w_581 rfl), (lw_good_at w_5 rfl)⟩
theorem lk_X7_1 : z_LI "GraphNames$Tree" 1 mX8_init := ⟨(lw_good_at w_248 rfl), by decide, rfl, Or.inl (lw_good_at w_363 rfl)⟩
theorem lk_X7_25 : z_LS "GraphNames$Tree" 25 mJ9_max_7cf53 := ⟨(lw_good_at w_461 rfl), Or.inl (lw_good_at w_586 rfl)⟩
theorem lk_X7_37 : z_LV "GraphNames$Tree" 37 "GraphNames$Leaf" mX2_compare := ⟨(lw_good_at w_587 rfl), (lw_good_at w_566 rfl), (lw_good_at w_567 rfl)⟩
theorem lk_X7_41 : z_LV "GraphNames$Tree" 41 "GraphNames$Leaf" mX2_take := ⟨(lw_good_at w_588 rfl), (lw_good_at w_561 rfl), (lw_good_at w_562 rfl)⟩
theorem lk_X8_11 : z_LI "GraphNames$Walk" 11 mX1_init := ⟨(lw_good_at w_81 rfl), by decide, rfl, Or.inr ⟨"GraphNames", (lw_nest_at w_252 rfl)⟩⟩
theorem lk_X8_26 : z_LI "GraphNames$Walk" 26 mX2_init := ⟨(lw_good_at w_258 rfl), by decide, rfl, Or.inr ⟨"GraphNames", (lw_nest_at w_257 rfl)⟩⟩
theorem lk_X8_51 : z_LI "GraphNames$Walk" 51 mX0_init := ⟨(lw_good_at w_175 rfl), by decide, rfl, Or.inr ⟨"GraphNames", (lw_nest_at w_285 rfl)⟩⟩
theorem lk_X8_52 : z_LV "GraphNames$Walk" 52 "GraphNames$Graph" mX1_same := ⟨(lw_good_at w_490 rfl), (lw_good_at w_491 rfl), (lw_good_at w_492 rfl)⟩
theorem lk_X8_56 : z_LV "GraphNames$Walk" 56 "GraphNames$Graph" mX1_take := ⟨(lw_good_at w_494 rfl), (lw_good_at w_495 rfl), (lw_good_at w_496 rfl)⟩
theorem lk_X8_60_X6 : z_LU "GraphNames$Walk" 60 "GraphNames$Search" "GraphNames$Walk" ⟨"GraphNames$Walk", "forget", "()V"⟩ mX6_forget := ⟨(lw_good_at w_501 rfl), (lw_good_at w_503 rfl), (lw_good_at w_504 rfl), (lw_good_at w_505 rfl), Or.inr (Or.inl (lw_nest_at w_502 rfl)), by decide, by decide, rfl⟩
theorem lk_X8_60_X7 : z_LU "GraphNames$Walk" 60 "GraphNames$Tree" "GraphNames$Walk" ⟨"GraphNames$Walk", "forget", "()V"⟩ mX7_forget := ⟨(lw_good_at w_501 rfl), (lw_good_at w_503 rfl), (lw_good_at w_507 rfl), (lw_good_at w_508 rfl), Or.inr (Or.inl (lw_nest_at w_502 rfl)), by decide, by decide, rfl⟩
theorem lk_X8_63 : z_LV "GraphNames$Walk" 63 "GraphNames$Cells" mX0_begin := ⟨(lw_good_at w_510 rfl), (lw_good_at w_511 rfl), (lw_good_at w_512 rfl)⟩
theorem lk_X8_70 : z_LV "GraphNames$Walk" 70 "GraphNames$Cells" mX0_mark := ⟨(lw_good_at w_534 rfl), (lw_good_at w_535 rfl), (lw_good_at w_536 rfl)⟩
theorem lk_X8_78 : z_LV "GraphNames$Walk" 78 "GraphNames$Cells" mX0_target := ⟨(lw_good_at w_542 rfl), (lw_good_at w_543 rfl), (lw_good_at w_544 rfl)⟩
theorem lk_X8_81 : z_LV "GraphNames$Walk" 81 "GraphNames$Leaf" mX2_write := ⟨(lw_good_at w_546 rfl), (lw_good_at w_547 rfl), (lw_good_at w_548 rfl)⟩
theorem lk_X8_85_X6 : z_LU "GraphNames$Walk" 85 "GraphNames$Search" "GraphNames$Walk" ⟨"GraphNames$Walk", "reach", "()V"⟩ mX6_reach := ⟨(lw_good_at w_554 rfl), (lw_good_at w_556 rfl), (lw_good_at w_557 rfl), (lw_good_at w_558 rfl), Or.inr (Or.inl (lw_nest_at w_555 rfl)), by decide, by decide, rfl⟩
theorem lk_X8_85_X7 : z_LU "GraphNames$Walk" 85 "GraphNames$Tree" "GraphNames$Walk" ⟨"GraphNames$Walk", "reach", "()V"⟩ mX7_reach := ⟨(lw_good_at w_554 rfl), (lw_good_at w_556 rfl), (lw_good_at w_583 rfl), (lw_good_at w_584 rfl), Or.inr (Or.inl (lw_nest_at w_555 rfl)), by decide, by decide, rfl⟩
theorem lk_X8_91 : z_LS "GraphNames$Walk" 91 mX9_in := ⟨(lw_good_at w_590 rfl), Or.inr ⟨"GraphNames", (lw_nest_at w_589 rfl)⟩⟩
theorem lk_X8_95_X6 : z_LU "GraphNames$Walk" 95 "GraphNames$Search" "GraphNames$Walk" ⟨"GraphNames$Walk", "skips", "(III)Z"⟩ mX6_skips := ⟨(lw_good_at w_592 rfl), (lw_good_at w_594 rfl), (lw_good_at w_595 rfl), (lw_good_at w_596 rfl), Or.inr (Or.inl (lw_nest_at w_593 rfl)), by decide, by decide, rfl⟩
theorem lk_X8_95_X7 : z_LU "GraphNames$Walk" 95 "GraphNames$Tree" "GraphNames$Walk" ⟨"GraphNames$Walk", "skips", "(III)Z"⟩ mX7_skips := ⟨(lw_good_at w_592 rfl), (lw_good_at w_594 rfl), (lw_good_at w_614 rfl), (lw_good_at w_615 rfl), Or.inr (Or.inl (lw_nest_at w_593 rfl)), by decide, by decide, rfl⟩
theorem lk_X8_99 : z_LV "GraphNames$Walk" 99 "GraphNames$Cells" mX0_take := ⟨(lw_good_at w_617 rfl), (lw_good_at w_618 rfl), (lw_good_at w_619 rfl)⟩
theorem lk_X8_102 : z_LV "GraphNames$Walk" 102 "GraphNames$Cells" mX0_putAhead := ⟨(lw_good_at w_621 rfl), (lw_good_at w_622 rfl), (lw_good_at w_623 rfl)⟩
theorem lk_X8_106 : z_LV "GraphNames$Walk" 106 "GraphNames$Cells" mX0_refine := ⟨(lw_good_at w_626 rfl), (lw_good_at w_516 rfl), (lw_good_at w_517 rfl)⟩
theorem lk_X8_109_X6 : z_LU "GraphNames$Walk" 109 "GraphNames$Search" "GraphNames$Walk" ⟨"GraphNames$Walk", "cuts", "(I)Z"⟩ mX6_cuts := ⟨(lw_good_at w_627 rfl), (lw_good_at w_629 rfl), (lw_good_at w_630 rfl), (lw_good_at w_631 rfl), Or.inr (Or.inl (lw_nest_at w_628 rfl)), by decide, by decide, rfl⟩
theorem lk_X8_109_X7 : z_LU "GraphNames$Walk" 109 "GraphNames$Tree" "GraphNames$Walk" ⟨"GraphNames$Walk", "cuts", "(I)Z"⟩ mX7_cuts := ⟨(lw_good_at w_627 rfl), (lw_good_at w_629 rfl), (lw_good_at w_633 rfl), (lw_good_at w_634 rfl), Or.inr (Or.inl (lw_nest_at w_628 rfl)), by decide, by decide, rfl⟩
theorem lk_X9_29 : z_LI "GraphNames" 29 mX5_init := ⟨(lw_good_at w_75 rfl), by decide, rfl, Or.inr ⟨"GraphNames", (lw_nest_at w_74 rfl)⟩⟩
theorem lk_X9_36 : z_LI "GraphNames" 36 mX4_init := ⟨(lw_good_at w_154 rfl), by decide, rfl, Or.inl (lw_good_at w_153 rfl)⟩
theorem lk_X9_50 : z_LI "GraphNames" 50 mX0_init := ⟨(lw_good_at w_175 rfl), by decide, rfl, Or.inr ⟨"GraphNames", (lw_nest_at w_174 rfl)⟩⟩
theorem lk_X9_60 : z_LI "GraphNames" 60 mX3_init := ⟨(lw_good_at w_209 rfl), by decide, rfl, Or.inr ⟨"GraphNames", (lw_nest_at w_208 rfl)⟩⟩
theorem lk_X9_65 : z_LI "GraphNames" 65 mX1_init := ⟨(lw_good_at w_81 rfl), by decide, rfl, Or.inr ⟨"GraphNames", (lw_nest_at w_242 rfl)⟩⟩
theorem lk_X9_70 : z_LI "GraphNames" 70 mX6_init := ⟨(lw_good_at w_245 rfl), by decide, rfl, Or.inr ⟨"GraphNames", (lw_nest_at w_244 rfl)⟩⟩
theorem lk_X9_85 : z_LI "GraphNames" 85 mX7_init := ⟨(lw_good_at w_361 rfl), by decide, rfl, Or.inr ⟨"GraphNames", (lw_nest_at w_360 rfl)⟩⟩
theorem lk_X9_86 : z_LI "GraphNames" 86 mX2_init := ⟨(lw_good_at w_258 rfl), by decide, rfl, Or.inr ⟨"GraphNames", (lw_nest_at w_382 rfl)⟩⟩
theorem lk_X9_90 : z_LV "GraphNames" 90 "GraphNames$Reader" mX5_put := ⟨(lw_good_at w_913 rfl), (lw_good_at w_914 rfl), (lw_good_at w_915 rfl)⟩
theorem lk_X9_94 : z_LV "GraphNames" 94 "GraphNames" mX9_at := ⟨(lw_good_at w_430 rfl), (lw_good_at w_432 rfl), (lw_good_at w_0 rfl)⟩
theorem lk_X9_98 : z_LV "GraphNames" 98 "GraphNames" mX9_refused := ⟨(lw_good_at w_434 rfl), (lw_good_at w_436 rfl), (lw_good_at w_1 rfl)⟩
theorem lk_X9_102 : z_LV "GraphNames" 102 "GraphNames$Reader" mX5_read := ⟨(lw_good_at w_921 rfl), (lw_good_at w_922 rfl), (lw_good_at w_923 rfl)⟩
theorem lk_X9_108 : z_LV "GraphNames" 108 "GraphNames$Past" mX4_keep := ⟨(lw_good_at w_746 rfl), (lw_good_at w_747 rfl), (lw_good_at w_748 rfl)⟩
theorem lk_X9_115 : z_LV "GraphNames" 115 "GraphNames$Graph" mX1_take := ⟨(lw_good_at w_770 rfl), (lw_good_at w_495 rfl), (lw_good_at w_496 rfl)⟩
theorem lk_X9_122 : z_LV "GraphNames" 122 "GraphNames" mX9_answered := ⟨(lw_good_at w_438 rfl), (lw_good_at w_440 rfl), (lw_good_at w_2 rfl)⟩
theorem lk_X9_128 : z_LV "GraphNames" 128 "GraphNames$Graph" mX1_links := ⟨(lw_good_at w_442 rfl), (lw_good_at w_443 rfl), (lw_good_at w_444 rfl)⟩
theorem lk_X9_132 : z_LV "GraphNames" 132 "GraphNames$Cells" mX0_byColours := ⟨(lw_good_at w_452 rfl), (lw_good_at w_453 rfl), (lw_good_at w_454 rfl)⟩
theorem lk_X9_136 : z_LV "GraphNames" 136 "GraphNames$Graph" mX1_mostLinks := ⟨(lw_good_at w_456 rfl), (lw_good_at w_457 rfl), (lw_good_at w_458 rfl)⟩
theorem lk_X9_139 : z_LV "GraphNames" 139 "GraphNames$Graph" mX1_has := ⟨(lw_good_at w_467 rfl), (lw_good_at w_468 rfl), (lw_good_at w_469 rfl)⟩
theorem lk_X9_154 : z_LS "GraphNames" 154 mJ6_bitCount_0f7a4 := ⟨(lw_good_at w_447 rfl), Or.inl (lw_good_at w_479 rfl)⟩
theorem lk_X9_159 : z_LV "GraphNames" 159 "GraphNames$Cells" mX0_refine := ⟨(lw_good_at w_1240 rfl), (lw_good_at w_516 rfl), (lw_good_at w_517 rfl)⟩
theorem lk_X9_165 : z_LV "GraphNames" 165 "GraphNames$Cells" mX0_target := ⟨(lw_good_at w_1241 rfl), (lw_good_at w_543 rfl), (lw_good_at w_544 rfl)⟩
theorem lk_X9_168 : z_LV "GraphNames" 168 "GraphNames$Cells" mX0_begin := ⟨(lw_good_at w_1246 rfl), (lw_good_at w_511 rfl), (lw_good_at w_512 rfl)⟩
theorem lk_X9_184_X7 : z_LU "GraphNames" 184 "GraphNames$Tree" "GraphNames$Walk" ⟨"GraphNames$Tree", "look", "(LGraphNames$Graph;)V"⟩ mX8_look := ⟨(lw_good_at w_484 rfl), (lw_good_at w_485 rfl), (lw_good_at w_487 rfl), (lw_good_at w_488 rfl), Or.inl rfl, by decide, by decide, rfl⟩
theorem lk_X9_206 : z_LV "GraphNames" 206 "GraphNames" mX9_searchOf := ⟨(lw_good_at w_640 rfl), (lw_good_at w_642 rfl), (lw_good_at w_9 rfl)⟩
theorem lk_X9_234 : z_LV "GraphNames" 234 "GraphNames$Leaf" mX2_compareCodes := ⟨(lw_good_at w_655 rfl), (lw_good_at w_576 rfl), (lw_good_at w_577 rfl)⟩
theorem lk_X9_241 : z_LS "GraphNames" 241 mX9_sentTo := ⟨(lw_good_at w_608 rfl), Or.inl (lw_good_at w_660 rfl)⟩
theorem lk_X9_245 : z_LV "GraphNames" 245 "GraphNames$Pairing" mX3_match := ⟨(lw_good_at w_665 rfl), (lw_good_at w_666 rfl), (lw_good_at w_667 rfl)⟩
theorem lk_X9_252 : z_LV "GraphNames" 252 "GraphNames$Pairing" mX3_orbits := ⟨(lw_good_at w_688 rfl), (lw_good_at w_689 rfl), (lw_good_at w_690 rfl)⟩
theorem lk_X9_255 : z_LV "GraphNames" 255 "GraphNames$Pairing" mX3_unmoved := ⟨(lw_good_at w_692 rfl), (lw_good_at w_693 rfl), (lw_good_at w_694 rfl)⟩
theorem lk_X9_261 : z_LV "GraphNames" 261 "GraphNames$Graph" mX1_hasAll := ⟨(lw_good_at w_704 rfl), (lw_good_at w_705 rfl), (lw_good_at w_706 rfl)⟩
theorem lk_X9_267 : z_LV "GraphNames" 267 "GraphNames$Pairing" mX3_leastChanges := ⟨(lw_good_at w_720 rfl), (lw_good_at w_721 rfl), (lw_good_at w_722 rfl)⟩
theorem lk_X9_271 : z_LV "GraphNames" 271 "GraphNames" mX9_toldApart := ⟨(lw_good_at w_732 rfl), (lw_good_at w_734 rfl), (lw_good_at w_15 rfl)⟩
theorem lk_X9_286 : z_LV "GraphNames" 286 "GraphNames" mX9_cellsWith := ⟨(lw_good_at w_1256 rfl), (lw_good_at w_1258 rfl), (lw_good_at w_29 rfl)⟩
theorem lk_X9_303 : z_LV "GraphNames" 303 "GraphNames$Graph" mX1_mix := ⟨(lw_good_at w_752 rfl), (lw_good_at w_753 rfl), (lw_good_at w_754 rfl)⟩
theorem lk_X9_320_X6 : z_LU "GraphNames" 320 "GraphNames$Search" "GraphNames$Walk" ⟨"GraphNames$Search", "look", "(LGraphNames$Graph;)V"⟩ mX8_look := ⟨(lw_good_at w_644 rfl), (lw_good_at w_645 rfl), (lw_good_at w_646 rfl), (lw_good_at w_488 rfl), Or.inl rfl, by decide, by decide, rfl⟩
theorem lk_X9_321 : z_LV "GraphNames" 321 "GraphNames$Cells" mX0_alike := ⟨(lw_good_at w_736 rfl), (lw_good_at w_737 rfl), (lw_good_at w_738 rfl)⟩
theorem lk_X9_325 : z_LV "GraphNames" 325 "GraphNames$Cells" mX0_divide := ⟨(lw_good_at w_740 rfl), (lw_good_at w_520 rfl), (lw_good_at w_521 rfl)⟩
theorem lk_X9_332 : z_LV "GraphNames" 332 "GraphNames$Cells" mX0_take := ⟨(lw_good_at w_1260 rfl), (lw_good_at w_618 rfl), (lw_good_at w_619 rfl)⟩
theorem lk_X9_174 : z_LS "GraphNames" 174 mX9_in := ⟨(lw_good_at w_590 rfl), Or.inl (lw_good_at w_1261 rfl)⟩
theorem lk_X9_178 : z_LV "GraphNames" 178 "GraphNames$Cells" mX0_putAhead := ⟨(lw_good_at w_1262 rfl), (lw_good_at w_622 rfl), (lw_good_at w_623 rfl)⟩
theorem lk_J5_26 : z_LS "java/lang/AbstractStringBuilder" 26 mJ2_newBytesFor_77867 := ⟨(lw_good_at w_1009 rfl), Or.inl (lw_good_at w_1008 rfl)⟩
theorem lk_J5_32 : z_LV "java/lang/AbstractStringBuilder" 32 "java/lang/String" mJ0_length_8abf5 := ⟨(lw_good_at w_1004 rfl), (lw_good_at w_862 rfl), (lw_good_at w_863 rfl)⟩
theorem lk_J5_40 : z_LV "java/lang/AbstractStringBuilder" 40 "java/lang/String" mJ0_coder_7d493 := ⟨(lw_good_at w_1007 rfl), (lw_good_at w_866 rfl), (lw_good_at w_867 rfl)⟩
theorem lk_J5_43_J4 : z_LU "java/lang/AbstractStringBuilder" 43 "java/lang/StringBuilder" "java/lang/AbstractStringBuilder" ⟨"java/lang/AbstractStringBuilder", "append", "(Ljava/lang/String;)Ljava/lang/AbstractStringBuilder;"⟩ mJ4_append_cf1ce := ⟨(lw_good_at w_1015 rfl), (lw_good_at w_1017 rfl), (lw_good_at w_1018 rfl), (lw_good_at w_1019 rfl), Or.inr (Or.inr ⟨(lw_good_at w_1016 rfl), _, _, _, (lw_good_at w_1027 rfl)⟩), by decide, by decide, rfl⟩
theorem lk_J5_108 : z_LS "java/lang/AbstractStringBuilder" 108 mJ7_copyOf_9075b := ⟨(lw_good_at w_1049 rfl), Or.inl (lw_good_at w_1048 rfl)⟩
theorem lk_J5_114 : z_LS "java/lang/AbstractStringBuilder" 114 mJ8_newLength_cabcc := ⟨(lw_good_at w_1041 rfl), Or.inl (lw_good_at w_1040 rfl)⟩
theorem lk_J5_83_J4 : z_LU "java/lang/AbstractStringBuilder" 83 "java/lang/StringBuilder" "java/lang/AbstractStringBuilder" ⟨"java/lang/AbstractStringBuilder", "isLatin1", "()Z"⟩ mJ5_isLatin1_aae02 := ⟨(lw_good_at w_1060 rfl), (lw_good_at w_1062 rfl), (lw_good_at w_1063 rfl), (lw_good_at w_1061 rfl), Or.inl rfl, by decide, by decide, rfl⟩
theorem lk_J5_125 : z_LS "java/lang/AbstractStringBuilder" 125 mJ1_inflate_0e8fd := ⟨(lw_good_at w_1094 rfl), Or.inl (lw_good_at w_1093 rfl)⟩
theorem lk_J5_226 : z_LS "java/lang/AbstractStringBuilder" 226 mJ2_putCharsAt_cd4e5 := ⟨(lw_good_at w_1067 rfl), Or.inl (lw_good_at w_1066 rfl)⟩
theorem lk_J5_191 : z_LS "java/lang/AbstractStringBuilder" 191 mJ1_canEncode_fc78d := ⟨(lw_good_at w_1161 rfl), Or.inl (lw_good_at w_1160 rfl)⟩
theorem lk_J5_197 : z_LS "java/lang/AbstractStringBuilder" 197 mJ2_putCharSB_b72d1 := ⟨(lw_good_at w_1164 rfl), Or.inl (lw_good_at w_1163 rfl)⟩
theorem lk_J5_245 : z_LS "java/lang/AbstractStringBuilder" 245 mJ6_stringSize_0f7a4 := ⟨(lw_good_at w_1134 rfl), Or.inl (lw_good_at w_1133 rfl)⟩
theorem lk_J5_248 : z_LS "java/lang/AbstractStringBuilder" 248 mJ6_getChars_ba4f3 := ⟨(lw_good_at w_1137 rfl), Or.inl (lw_good_at w_1136 rfl)⟩
theorem lk_J5_251 : z_LS "java/lang/AbstractStringBuilder" 251 mJ2_getChars_46870 := ⟨(lw_good_at w_1144 rfl), Or.inl (lw_good_at w_1143 rfl)⟩
theorem lk_J5_399 : z_LV "java/lang/AbstractStringBuilder" 399 "java/lang/String" mJ0_getBytes_840e7 := ⟨(lw_good_at w_1108 rfl), (lw_good_at w_1109 rfl), (lw_good_at w_1110 rfl)⟩
theorem lk_J0_489 : z_LI "java/lang/String" 489 mJ0_init_db425 := ⟨(lw_good_at w_1177 rfl), by decide, rfl, Or.inl (lw_good_at w_1176 rfl)⟩
theorem lk_J0_335 : z_LV "java/lang/String" 335 "java/lang/String" mJ0_coder_7d493 := ⟨(lw_good_at w_865 rfl), (lw_good_at w_866 rfl), (lw_good_at w_867 rfl)⟩
theorem lk_J0_492 : z_LV "java/lang/String" 492 "java/lang/String" mJ0_isLatin1_aae02 := ⟨(lw_good_at w_875 rfl), (lw_good_at w_876 rfl), (lw_good_at w_877 rfl)⟩
theorem lk_J0_495 : z_LS "java/lang/String" 495 mJ1_charAt_3b067 := ⟨(lw_good_at w_880 rfl), Or.inl (lw_good_at w_879 rfl)⟩
theorem lk_J0_498 : z_LS "java/lang/String" 498 mJ2_charAt_3b067 := ⟨(lw_good_at w_891 rfl), Or.inl (lw_good_at w_890 rfl)⟩
theorem lk_J0_106 : z_LS "java/lang/String" 106 mJ1_inflate_0e8fd := ⟨(lw_good_at w_1094 rfl), Or.inl (lw_good_at w_1113 rfl)⟩
theorem lk_J0_552_J4 : z_LU "java/lang/String" 552 "java/lang/StringBuilder" "java/lang/AbstractStringBuilder" ⟨"java/lang/AbstractStringBuilder", "getValue", "()[B"⟩ mJ5_getValue_6d5f1 := ⟨(lw_good_at w_1180 rfl), (lw_good_at w_1182 rfl), (lw_good_at w_1183 rfl), (lw_good_at w_1181 rfl), Or.inl rfl, by decide, by decide, rfl⟩
theorem lk_J0_549_J4 : z_LU "java/lang/String" 549 "java/lang/StringBuilder" "java/lang/AbstractStringBuilder" ⟨"java/lang/AbstractStringBuilder", "length", "()I"⟩ mJ4_length_8abf5 := ⟨(lw_good_at w_1185 rfl), (lw_good_at w_1187 rfl), (lw_good_at w_1188 rfl), (lw_good_at w_1189 rfl), Or.inr (Or.inr ⟨(lw_good_at w_1186 rfl), _, _, _, (lw_good_at w_1192 rfl)⟩), by decide, by decide, rfl⟩
theorem lk_J0_1047_J4 : z_LU "java/lang/String" 1047 "java/lang/StringBuilder" "java/lang/AbstractStringBuilder" ⟨"java/lang/AbstractStringBuilder", "isLatin1", "()Z"⟩ mJ5_isLatin1_aae02 := ⟨(lw_good_at w_1193 rfl), (lw_good_at w_1062 rfl), (lw_good_at w_1063 rfl), (lw_good_at w_1061 rfl), Or.inl rfl, by decide, by decide, rfl⟩
theorem lk_J0_54 : z_LS "java/lang/String" 54 mJ7_copyOfRange_39247 := ⟨(lw_good_at w_1195 rfl), Or.inl (lw_good_at w_1194 rfl)⟩
theorem lk_J0_1051 : z_LS "java/lang/String" 1051 mJ2_compress_39247 := ⟨(lw_good_at w_1204 rfl), Or.inl (lw_good_at w_1203 rfl)⟩
theorem lk_J0_47 : z_LS "java/lang/String" 47 mJ2_coderFromArrayLen_85cad := ⟨(lw_good_at w_1211 rfl), Or.inl (lw_good_at w_1210 rfl)⟩
theorem lk_J0_1059 : z_LS "java/lang/String" 1059 mJ3_checkIndex_8e157 := ⟨(lw_good_at w_888 rfl), Or.inl (lw_good_at w_887 rfl)⟩
theorem lk_J0_1065 : z_LS "java/lang/String" 1065 mJ3_checkFromIndexSize_8c36e := ⟨(lw_good_at w_1106 rfl), Or.inl (lw_good_at w_1105 rfl)⟩
theorem lk_J0_1062 : z_LS "java/lang/String" 1062 mJ3_checkFromToIndex_8c36e := ⟨(lw_good_at w_1076 rfl), Or.inl (lw_good_at w_1075 rfl)⟩
theorem lk_J4_1 : z_LI "java/lang/StringBuilder" 1 mJ5_init_d00df := ⟨(lw_good_at w_1230 rfl), by decide, rfl, Or.inl (lw_good_at w_1229 rfl)⟩
theorem lk_J4_7 : z_LI "java/lang/StringBuilder" 7 mJ5_init_a7421 := ⟨(lw_good_at w_1001 rfl), by decide, rfl, Or.inl (lw_good_at w_1000 rfl)⟩
theorem lk_J4_137 : z_LI "java/lang/StringBuilder" 137 mJ0_init_81219 := ⟨(lw_good_at w_1174 rfl), by decide, rfl, Or.inl (lw_good_at w_1173 rfl)⟩
theorem lk_J4_23 : z_LV "java/lang/StringBuilder" 23 "java/lang/StringBuilder" mJ4_append_15ec4 := ⟨(lw_good_at w_1021 rfl), (lw_good_at w_1022 rfl), (lw_good_at w_1023 rfl)⟩
theorem lk_J1_9 : z_LS "java/lang/StringLatin1" 9 mJ0_checkIndex_df160 := ⟨(lw_good_at w_883 rfl), Or.inl (lw_good_at w_882 rfl)⟩
theorem lk_J1_240 : z_LS "java/lang/StringLatin1" 240 mJ2_inflate_0e8fd := ⟨(lw_good_at w_1097 rfl), Or.inl (lw_good_at w_1096 rfl)⟩
theorem lk_J2_11 : z_LS "java/lang/StringUTF16" 11 mJ2_newBytesLength_0f7a4 := ⟨(lw_good_at w_1012 rfl), Or.inl (lw_good_at w_1011 rfl)⟩
theorem lk_J2_48 : z_LS "java/lang/StringUTF16" 48 mJ2_length_9d52b := ⟨(lw_good_at w_897 rfl), Or.inl (lw_good_at w_896 rfl)⟩
theorem lk_J2_123 : z_LS "java/lang/StringUTF16" 123 mJ2_compress_5af95 := ⟨(lw_good_at w_1207 rfl), Or.inl (lw_good_at w_1206 rfl)⟩
theorem lk_J2_126 : z_LS "java/lang/StringUTF16" 126 mJ7_copyOfRange_39247 := ⟨(lw_good_at w_1195 rfl), Or.inl (lw_good_at w_1209 rfl)⟩
theorem lk_J2_71 : z_LS "java/lang/StringUTF16" 71 mJ2_getChar_3b067 := ⟨(lw_good_at w_901 rfl), Or.inl (lw_good_at w_900 rfl)⟩
theorem lk_J2_173 : z_LS "java/lang/StringUTF16" 173 mJ2_checkBoundsOffCount_d044e := ⟨(lw_good_at w_1100 rfl), Or.inl (lw_good_at w_1099 rfl)⟩
theorem lk_J2_67 : z_LS "java/lang/StringUTF16" 67 mJ2_checkIndex_2214a := ⟨(lw_good_at w_894 rfl), Or.inl (lw_good_at w_893 rfl)⟩
theorem lk_J2_111 : z_LS "java/lang/StringUTF16" 111 mJ2_putChar_b72d1 := ⟨(lw_good_at w_1079 rfl), Or.inl (lw_good_at w_1078 rfl)⟩
theorem lk_J2_96 : z_LS "java/lang/StringUTF16" 96 mJ2_checkBoundsBeginEnd_d044e := ⟨(lw_good_at w_1070 rfl), Or.inl (lw_good_at w_1069 rfl)⟩
theorem lk_J2_393 : z_LS "java/lang/StringUTF16" 393 mJ2_getChars_ba4f3 := ⟨(lw_good_at w_1147 rfl), Or.inl (lw_good_at w_1146 rfl)⟩
theorem lk_J2_414 : z_LS "java/lang/StringUTF16" 414 mJ0_checkIndex_df160 := ⟨(lw_good_at w_883 rfl), Or.inl (lw_good_at w_899 rfl)⟩
theorem lk_J2_241 : z_LS "java/lang/StringUTF16" 241 mJ0_checkBoundsBeginEnd_23922 := ⟨(lw_good_at w_1073 rfl), Or.inl (lw_good_at w_1072 rfl)⟩
theorem lk_J2_419 : z_LS "java/lang/StringUTF16" 419 mJ0_checkBoundsOffCount_cabcc := ⟨(lw_good_at w_1103 rfl), Or.inl (lw_good_at w_1102 rfl)⟩
theorem lk_J7_304 : z_LS "java/util/Arrays" 304 mJ9_min_7cf53 := ⟨(lw_good_at w_570 rfl), Or.inl (lw_good_at w_1058 rfl)⟩
theorem lk_J7_339 : z_LS "java/util/Arrays" 339 mJ7_copyOfRangeByte_39247 := ⟨(lw_good_at w_1198 rfl), Or.inl (lw_good_at w_1197 rfl)⟩
theorem lk_J7_343 : z_LS "java/util/Arrays" 343 mJ7_checkLength_df160 := ⟨(lw_good_at w_1201 rfl), Or.inl (lw_good_at w_1200 rfl)⟩
theorem lk_J8_194 : z_LS "jdk/internal/util/ArraysSupport" 194 mJ9_max_7cf53 := ⟨(lw_good_at w_461 rfl), Or.inl (lw_good_at w_1043 rfl)⟩
theorem lk_J8_201 : z_LS "jdk/internal/util/ArraysSupport" 201 mJ8_hugeLength_7cf53 := ⟨(lw_good_at w_1046 rfl), Or.inl (lw_good_at w_1045 rfl)⟩
theorem lk_L_7 : z_LV "GraphNamesLaw" 7 "java/lang/String" mJ0_length_8abf5 := ⟨(lw_good_at w_861 rfl), (lw_good_at w_862 rfl), (lw_good_at w_863 rfl)⟩
theorem lk_L_13 : z_LV "GraphNamesLaw" 13 "java/lang/String" mJ0_charAt_5068e := ⟨(lw_good_at w_871 rfl), (lw_good_at w_872 rfl), (lw_good_at w_873 rfl)⟩
theorem lk_L_17 : z_LV "GraphNamesLaw" 17 "GraphNames" mX9_feed := ⟨(lw_good_at w_909 rfl), (lw_good_at w_910 rfl), (lw_good_at w_911 rfl)⟩
theorem lk_L_23 : z_LV "GraphNamesLaw" 23 "GraphNames" mX9_text := ⟨(lw_good_at w_917 rfl), (lw_good_at w_918 rfl), (lw_good_at w_919 rfl)⟩
theorem lk_L_27 : z_LV "GraphNamesLaw" 27 "GraphNamesLaw$Draws" mX10_next := ⟨(lw_good_at w_853 rfl), (lw_good_at w_854 rfl), (lw_good_at w_855 rfl)⟩
theorem lk_L_36 : z_LI "GraphNamesLaw" 36 mJ4_init_a7421 := ⟨(lw_good_at w_998 rfl), by decide, rfl, Or.inl (lw_good_at w_997 rfl)⟩
theorem lk_L_39 : z_LV "GraphNamesLaw" 39 "java/lang/StringBuilder" mJ4_append_bf812 := ⟨(lw_good_at w_1126 rfl), (lw_good_at w_1127 rfl), (lw_good_at w_1128 rfl)⟩
theorem lk_L_45 : z_LV "GraphNamesLaw" 45 "java/lang/StringBuilder" mJ4_append_15ec4 := ⟨(lw_good_at w_1152 rfl), (lw_good_at w_1022 rfl), (lw_good_at w_1023 rfl)⟩
theorem lk_L_48 : z_LV "GraphNamesLaw" 48 "java/lang/StringBuilder" mJ4_append_cf468 := ⟨(lw_good_at w_1153 rfl), (lw_good_at w_1154 rfl), (lw_good_at w_1155 rfl)⟩
theorem lk_L_53 : z_LV "GraphNamesLaw" 53 "java/lang/StringBuilder" mJ4_toString_0e30d := ⟨(lw_good_at w_1167 rfl), (lw_good_at w_1168 rfl), (lw_good_at w_1169 rfl)⟩
theorem lk_L_61 : z_LI "GraphNamesLaw" 61 mJ4_init_da8c8 := ⟨(lw_good_at w_1227 rfl), by decide, rfl, Or.inl (lw_good_at w_1226 rfl)⟩
theorem lk_L_64 : z_LV "GraphNamesLaw" 64 "GraphNames" mX9_graph := ⟨(lw_good_at w_426 rfl), (lw_good_at w_427 rfl), (lw_good_at w_428 rfl)⟩
theorem lk_L_67 : z_LV "GraphNamesLaw" 67 "GraphNames" mX9_kind := ⟨(lw_good_at w_471 rfl), (lw_good_at w_472 rfl), (lw_good_at w_473 rfl)⟩
theorem lk_L_71 : z_LV "GraphNamesLaw" 71 "GraphNames" mX9_start := ⟨(lw_good_at w_1236 rfl), (lw_good_at w_1237 rfl), (lw_good_at w_1238 rfl)⟩
theorem lk_L_74 : z_LV "GraphNamesLaw" 74 "GraphNames" mX9_cell := ⟨(lw_good_at w_1242 rfl), (lw_good_at w_1243 rfl), (lw_good_at w_1244 rfl)⟩
theorem lk_L_77 : z_LS "GraphNamesLaw" 77 mJ6_numberOfTrailingZeros_0f7a4 := ⟨(lw_good_at w_551 rfl), Or.inl (lw_good_at w_1247 rfl)⟩
theorem lk_L_83 : z_LV "GraphNamesLaw" 83 "GraphNames" mX9_colour := ⟨(lw_good_at w_463 rfl), (lw_good_at w_464 rfl), (lw_good_at w_465 rfl)⟩
theorem lk_L_86 : z_LS "GraphNamesLaw" 86 mJ6_bitCount_0f7a4 := ⟨(lw_good_at w_447 rfl), Or.inl (lw_good_at w_1248 rfl)⟩
theorem lk_L_89 : z_LV "GraphNamesLaw" 89 "GraphNames" mX9_orbit := ⟨(lw_good_at w_696 rfl), (lw_good_at w_697 rfl), (lw_good_at w_698 rfl)⟩
theorem lk_L_92 : z_LS "GraphNamesLaw" 92 mL_seen := ⟨(lw_good_at w_1250 rfl), Or.inl (lw_good_at w_1249 rfl)⟩
theorem lk_L_98 : z_LV "GraphNamesLaw" 98 "GraphNames" mX9_trouble := ⟨(lw_good_at w_836 rfl), (lw_good_at w_837 rfl), (lw_good_at w_838 rfl)⟩
theorem lk_L_101 : z_LV "GraphNamesLaw" 101 "GraphNames" mX9_base := ⟨(lw_good_at w_1252 rfl), (lw_good_at w_1253 rfl), (lw_good_at w_1254 rfl)⟩
theorem lk_L_104 : z_LV "GraphNamesLaw" 104 "GraphNames" mX9_place := ⟨(lw_good_at w_1266 rfl), (lw_good_at w_1267 rfl), (lw_good_at w_1268 rfl)⟩
theorem lk_L_107 : z_LV "GraphNamesLaw" 107 "GraphNames" mX9_name := ⟨(lw_good_at w_647 rfl), (lw_good_at w_648 rfl), (lw_good_at w_649 rfl)⟩
theorem lk_L_110 : z_LI "GraphNamesLaw" 110 mX10_init := ⟨(lw_good_at w_843 rfl), by decide, rfl, Or.inl (lw_good_at w_842 rfl)⟩
theorem lk_L_113 : z_LI "GraphNamesLaw" 113 mX9_init := ⟨(lw_good_at w_61 rfl), by decide, rfl, Or.inl (lw_good_at w_60 rfl)⟩
theorem lk_L_114 : z_LV "GraphNamesLaw" 114 "GraphNames" mX9_symmetries := ⟨(lw_good_at w_661 rfl), (lw_good_at w_662 rfl), (lw_good_at w_663 rfl)⟩
theorem lk_L_117 : z_LS "GraphNamesLaw" 117 mL_text := ⟨(lw_good_at w_992 rfl), Or.inl (lw_good_at w_991 rfl)⟩
theorem lk_L_120 : z_LS "GraphNamesLaw" 120 mL_tell := ⟨(lw_good_at w_859 rfl), Or.inl (lw_good_at w_858 rfl)⟩
theorem lk_L_124 : z_LV "GraphNamesLaw" 124 "GraphNames" mX9_degree := ⟨(lw_good_at w_475 rfl), (lw_good_at w_476 rfl), (lw_good_at w_477 rfl)⟩
theorem lk_L_127 : z_LV "GraphNamesLaw" 127 "GraphNames" mX9_row := ⟨(lw_good_at w_771 rfl), (lw_good_at w_772 rfl), (lw_good_at w_773 rfl)⟩
theorem lk_L_130 : z_LS "GraphNamesLaw" 130 mJ9_max_7cf53 := ⟨(lw_good_at w_461 rfl), Or.inl (lw_good_at w_1270 rfl)⟩
theorem lk_L_135 : z_LS "GraphNamesLaw" 135 mL_cells := ⟨(lw_good_at w_1234 rfl), Or.inl (lw_good_at w_1233 rfl)⟩
theorem lk_L_139 : z_LS "GraphNamesLaw" 139 mL_name := ⟨(lw_good_at w_1264 rfl), Or.inl (lw_good_at w_1263 rfl)⟩
theorem lk_L_141 : z_LV "GraphNamesLaw" 141 "GraphNames" mX9_copy := ⟨(lw_good_at w_766 rfl), (lw_good_at w_767 rfl), (lw_good_at w_768 rfl)⟩
theorem lk_L_145 : z_LV "GraphNamesLaw" 145 "GraphNames" mX9_shuffle := ⟨(lw_good_at w_741 rfl), (lw_good_at w_742 rfl), (lw_good_at w_743 rfl)⟩
theorem lk_L_148 : z_LV "GraphNamesLaw" 148 "GraphNames" mX9_less := ⟨(lw_good_at w_651 rfl), (lw_good_at w_652 rfl), (lw_good_at w_653 rfl)⟩
theorem lk_L_151 : z_LV "GraphNamesLaw" 151 "GraphNames" mX9_maps := ⟨(lw_good_at w_708 rfl), (lw_good_at w_709 rfl), (lw_good_at w_710 rfl)⟩
theorem lk_L_154 : z_LV "GraphNamesLaw" 154 "GraphNames" mX9_changes := ⟨(lw_good_at w_716 rfl), (lw_good_at w_717 rfl), (lw_good_at w_718 rfl)⟩
theorem lk_L_157 : z_LV "GraphNamesLaw" 157 "GraphNames" mX9_told := ⟨(lw_good_at w_728 rfl), (lw_good_at w_729 rfl), (lw_good_at w_730 rfl)⟩
theorem lk_L_160 : z_LV "GraphNamesLaw" 160 "GraphNames" mX9_map := ⟨(lw_good_at w_712 rfl), (lw_good_at w_713 rfl), (lw_good_at w_714 rfl)⟩
theorem lk_L_163 : z_LV "GraphNamesLaw" 163 "GraphNames" mX9_leave := ⟨(lw_good_at w_700 rfl), (lw_good_at w_701 rfl), (lw_good_at w_702 rfl)⟩
theorem lk_L_166 : z_LV "GraphNamesLaw" 166 "GraphNames" mX9_tree := ⟨(lw_good_at w_480 rfl), (lw_good_at w_481 rfl), (lw_good_at w_482 rfl)⟩
theorem lk_L_169 : z_LV "GraphNamesLaw" 169 "GraphNames" mX9_search := ⟨(lw_good_at w_636 rfl), (lw_good_at w_637 rfl), (lw_good_at w_638 rfl)⟩
theorem lk_L_172 : z_LV "GraphNamesLaw" 172 "GraphNames" mX9_generator := ⟨(lw_good_at w_656 rfl), (lw_good_at w_657 rfl), (lw_good_at w_658 rfl)⟩
theorem inGX0 : ∀ w ∈ wsX00, w ∈ lw_good := fun w h => lw_good_of (inX0 w h) (List.all_eq_true.mp (by decide +kernel : wsX00.all goodWord = true) w h)
theorem inGX1 : ∀ w ∈ wsX10, w ∈ lw_good := fun w h => lw_good_of (inX1 w h) (List.all_eq_true.mp (by decide +kernel : wsX10.all goodWord = true) w h)
theorem inGX2 : ∀ w ∈ wsX20, w ∈ lw_good := fun w h => lw_good_of (inX2 w h) (List.all_eq_true.mp (by decide +kernel : wsX20.all goodWord = true) w h)
theorem inGX3 : ∀ w ∈ wsX30, w ∈ lw_good := fun w h => lw_good_of (inX3 w h) (List.all_eq_true.mp (by decide +kernel : wsX30.all goodWord = true) w h)
theorem inGX4 : ∀ w ∈ wsX40, w ∈ lw_good := fun w h => lw_good_of (inX4 w h) (List.all_eq_true.mp (by decide +kernel : wsX40.all goodWord = true) w h)
theorem inGX5 : ∀ w ∈ wsX50, w ∈ lw_good := fun w h => lw_good_of (inX5 w h) (List.all_eq_true.mp (by decide +kernel : wsX50.all goodWord = true) w h)
theorem inGX6 : ∀ w ∈ wsX60, w ∈ lw_good := fun w h => lw_good_of (inX6 w h) (List.all_eq_true.mp (by decide +kernel : wsX60.all goodWord = true) w h)
theorem inGX7 : ∀ w ∈ wsX70, w ∈ lw_good := fun w h => lw_good_of (inX7 w h) (List.all_eq_true.mp (by decide +kernel : wsX70.all goodWord = true) w h)
theorem inGX9 : ∀ w ∈ wsX90, w ∈ lw_good := fun w h => lw_good_of (inX9 w h) (List.all_eq_true.mp (by decide +kernel : wsX90.all goodWord = true) w h)
theorem inGX10 : ∀ w ∈ wsX100, w ∈ lw_good := fun w h => lw_good_of (inX10 w h) (List.all_eq_true.mp (by decide +kernel : wsX100.all goodWord = true) w h)
theorem inGJ0 : ∀ w ∈ wsJ00, w ∈ lw_good := fun w h => lw_good_of (inJ0 w h) (List.all_eq_true.mp (by decide +kernel : wsJ00.all goodWord = true) w h)
theorem inGJ4 : ∀ w ∈ wsJ40, w ∈ lw_good := fun w h => lw_good_of (inJ4 w h) (List.all_eq_true.mp (by decide +kernel : wsJ40.all goodWord = true) w h)
theorem fl_X1_9_X1 : z_FLg "GraphNames$Graph" 9 1 0 0 := ⟨"GraphNames$Graph", TX1, 4, tyX1, "GraphNames$Graph", rfl, inGX1, tyX1_ok, nmX1, by decide, (lw_good_at w_86 rfl), Or.inl rfl, rfl, rfl, by decide⟩
theorem fp_X1_9_X1 : z_FL "GraphNames$Graph" 9 1 0 0 false := ⟨"GraphNames$Graph", TX1, 4, tyX1, "GraphNames$Graph", rfl, inGX1, tyX1_ok, nmX1, by decide, (lw_good_at w_86 rfl), Or.inl rfl, rfl, rfl, rfl, by decide, fun h => Bool.noConfusion h⟩
theorem fl_X2_28_X1 : z_FLg "GraphNames$Leaf" 28 1 0 0 := ⟨"GraphNames$Graph", TX1, 4, tyX1, "GraphNames$Graph", rfl, inGX1, tyX1_ok, nmX1, by decide, (lw_good_at w_87 rfl), Or.inl rfl, rfl, rfl, by decide⟩
theorem fl_X3_45_X1 : z_FLg "GraphNames$Pairing" 45 1 0 0 := ⟨"GraphNames$Graph", TX1, 4, tyX1, "GraphNames$Graph", rfl, inGX1, tyX1_ok, nmX1, by decide, (lw_good_at w_88 rfl), Or.inl rfl, rfl, rfl, by decide⟩
theorem fl_X0_42_X1 : z_FLg "GraphNames$Cells" 42 1 0 0 := ⟨"GraphNames$Graph", TX1, 4, tyX1, "GraphNames$Graph", rfl, inGX1, tyX1_ok, nmX1, by decide, (lw_good_at w_89 rfl), Or.inl rfl, rfl, rfl, by decide⟩
theorem fl_X9_119_X1 : z_FLg "GraphNames" 119 1 0 0 := ⟨"GraphNames$Graph", TX1, 4, tyX1, "GraphNames$Graph", rfl, inGX1, tyX1_ok, nmX1, by decide, (lw_good_at w_90 rfl), Or.inl rfl, rfl, rfl, by decide⟩
theorem fl_X6_47_X1 : z_FLg "GraphNames$Search" 47 1 0 0 := ⟨"GraphNames$Graph", TX1, 4, tyX1, "GraphNames$Graph", rfl, inGX1, tyX1_ok, nmX1, by decide, (lw_good_at w_91 rfl), Or.inl rfl, rfl, rfl, by decide⟩
theorem fl_X8_88_X1 : z_FLg "GraphNames$Walk" 88 1 0 0 := ⟨"GraphNames$Graph", TX1, 4, tyX1, "GraphNames$Graph", rfl, inGX1, tyX1_ok, nmX1, by decide, (lw_good_at w_92 rfl), Or.inl rfl, rfl, rfl, by decide⟩
theorem fl_X1_15_X1 : z_FLg "GraphNames$Graph" 15 1 1 3 := ⟨"GraphNames$Graph", TX1, 4, tyX1, "GraphNames$Graph", rfl, inGX1, tyX1_ok, nmX1, by decide, (lw_good_at w_93 rfl), Or.inl rfl, rfl, rfl, by decide⟩
theorem fp_X1_15_X1 : z_FL "GraphNames$Graph" 15 1 1 3 true := ⟨"GraphNames$Graph", TX1, 4, tyX1, "GraphNames$Graph", rfl, inGX1, tyX1_ok, nmX1, by decide, (lw_good_at w_93 rfl), Or.inl rfl, rfl, rfl, rfl, by decide, fun _ => rfl⟩
theorem fl_X2_44_X1 : z_FLg "GraphNames$Leaf" 44 1 1 3 := ⟨"GraphNames$Graph", TX1, 4, tyX1, "GraphNames$Graph", rfl, inGX1, tyX1_ok, nmX1, by decide, (lw_good_at w_94 rfl), Or.inl rfl, rfl, rfl, by decide⟩
theorem fl_X0_45_X1 : z_FLg "GraphNames$Cells" 45 1 1 3 := ⟨"GraphNames$Graph", TX1, 4, tyX1, "GraphNames$Graph", rfl, inGX1, tyX1_ok, nmX1, by decide, (lw_good_at w_95 rfl), Or.inl rfl, rfl, rfl, by decide⟩
theorem fl_X3_66_X1 : z_FLg "GraphNames$Pairing" 66 1 1 3 := ⟨"GraphNames$Graph", TX1, 4, tyX1, "GraphNames$Graph", rfl, inGX1, tyX1_ok, nmX1, by decide, (lw_good_at w_96 rfl), Or.inl rfl, rfl, rfl, by decide⟩
theorem fl_X9_143_X1 : z_FLg "GraphNames" 143 1 1 3 := ⟨"GraphNames$Graph", TX1, 4, tyX1, "GraphNames$Graph", rfl, inGX1, tyX1_ok, nmX1, by decide, (lw_good_at w_97 rfl), Or.inl rfl, rfl, rfl, by decide⟩
theorem fl_X5_103_X1 : z_FLg "GraphNames$Reader" 103 1 1 3 := ⟨"GraphNames$Graph", TX1, 4, tyX1, "GraphNames$Graph", rfl, inGX1, tyX1_ok, nmX1, by decide, (lw_good_at w_98 rfl), Or.inl rfl, rfl, rfl, by decide⟩
theorem fl_X1_21_X1 : z_FLg "GraphNames$Graph" 21 1 2 3 := ⟨"GraphNames$Graph", TX1, 4, tyX1, "GraphNames$Graph", rfl, inGX1, tyX1_ok, nmX1, by decide, (lw_good_at w_99 rfl), Or.inl rfl, rfl, rfl, by decide⟩
theorem fp_X1_21_X1 : z_FL "GraphNames$Graph" 21 1 2 3 true := ⟨"GraphNames$Graph", TX1, 4, tyX1, "GraphNames$Graph", rfl, inGX1, tyX1_ok, nmX1, by decide, (lw_good_at w_99 rfl), Or.inl rfl, rfl, rfl, rfl, by decide, fun _ => rfl⟩
theorem fl_X2_47_X1 : z_FLg "GraphNames$Leaf" 47 1 2 3 := ⟨"GraphNames$Graph", TX1, 4, tyX1, "GraphNames$Graph", rfl, inGX1, tyX1_ok, nmX1, by decide, (lw_good_at w_100 rfl), Or.inl rfl, rfl, rfl, by decide⟩
theorem fl_X3_69_X1 : z_FLg "GraphNames$Pairing" 69 1 2 3 := ⟨"GraphNames$Graph", TX1, 4, tyX1, "GraphNames$Graph", rfl, inGX1, tyX1_ok, nmX1, by decide, (lw_good_at w_101 rfl), Or.inl rfl, rfl, rfl, by decide⟩
theorem fl_X9_147_X1 : z_FLg "GraphNames" 147 1 2 3 := ⟨"GraphNames$Graph", TX1, 4, tyX1, "GraphNames$Graph", rfl, inGX1, tyX1_ok, nmX1, by decide, (lw_good_at w_102 rfl), Or.inl rfl, rfl, rfl, by decide⟩
theorem fl_X5_113_X1 : z_FLg "GraphNames$Reader" 113 1 2 3 := ⟨"GraphNames$Graph", TX1, 4, tyX1, "GraphNames$Graph", rfl, inGX1, tyX1_ok, nmX1, by decide, (lw_good_at w_103 rfl), Or.inl rfl, rfl, rfl, by decide⟩
theorem fl_X1_24_X1 : z_FLg "GraphNames$Graph" 24 1 3 3 := ⟨"GraphNames$Graph", TX1, 4, tyX1, "GraphNames$Graph", rfl, inGX1, tyX1_ok, nmX1, by decide, (lw_good_at w_104 rfl), Or.inl rfl, rfl, rfl, by decide⟩
theorem fp_X1_24_X1 : z_FL "GraphNames$Graph" 24 1 3 3 true := ⟨"GraphNames$Graph", TX1, 4, tyX1, "GraphNames$Graph", rfl, inGX1, tyX1_ok, nmX1, by decide, (lw_good_at w_104 rfl), Or.inl rfl, rfl, rfl, rfl, by decide, fun _ => rfl⟩
theorem fl_X0_66_X1 : z_FLg "GraphNames$Cells" 66 1 3 3 := ⟨"GraphNames$Graph", TX1, 4, tyX1, "GraphNames$Graph", rfl, inGX1, tyX1_ok, nmX1, by decide, (lw_good_at w_105 rfl), Or.inl rfl, rfl, rfl, by decide⟩
theorem fl_X9_151_X1 : z_FLg "GraphNames" 151 1 3 3 := ⟨"GraphNames$Graph", TX1, 4, tyX1, "GraphNames$Graph", rfl, inGX1, tyX1_ok, nmX1, by decide, (lw_good_at w_106 rfl), Or.inl rfl, rfl, rfl, by decide⟩
theorem fl_X5_9_X5 : z_FLg "GraphNames$Reader" 9 5 0 0 := ⟨"GraphNames$Reader", TX5, 10, tyX5, "GraphNames$Reader", rfl, inGX5, tyX5_ok, nmX5, by decide, (lw_good_at w_117 rfl), Or.inl rfl, rfl, rfl, by decide⟩
theorem fp_X5_9_X5 : z_FL "GraphNames$Reader" 9 5 0 0 false := ⟨"GraphNames$Reader", TX5, 10, tyX5, "GraphNames$Reader", rfl, inGX5, tyX5_ok, nmX5, by decide, (lw_good_at w_117 rfl), Or.inl rfl, rfl, rfl, rfl, by decide, fun h => Bool.noConfusion h⟩
theorem fl_X9_87_X5 : z_FLg "GraphNames" 87 5 0 0 := ⟨"GraphNames$Reader", TX5, 10, tyX5, "GraphNames$Reader", rfl, inGX5, tyX5_ok, nmX5, by decide, (lw_good_at w_118 rfl), Or.inl rfl, rfl, rfl, by decide⟩
theorem fp_X5_15_X5 : z_FL "GraphNames$Reader" 15 5 1 0 false := ⟨"GraphNames$Reader", TX5, 10, tyX5, "GraphNames$Reader", rfl, inGX5, tyX5_ok, nmX5, by decide, (lw_good_at w_119 rfl), Or.inl rfl, rfl, rfl, rfl, by decide, fun h => Bool.noConfusion h⟩
theorem fl_X9_105_X5 : z_FLg "GraphNames" 105 5 1 0 := ⟨"GraphNames$Reader", TX5, 10, tyX5, "GraphNames$Reader", rfl, inGX5, tyX5_ok, nmX5, by decide, (lw_good_at w_120 rfl), Or.inl rfl, rfl, rfl, by decide⟩
theorem fp_X5_18_X5 : z_FL "GraphNames$Reader" 18 5 2 0 false := ⟨"GraphNames$Reader", TX5, 10, tyX5, "GraphNames$Reader", rfl, inGX5, tyX5_ok, nmX5, by decide, (lw_good_at w_121 rfl), Or.inl rfl, rfl, rfl, rfl, by decide, fun h => Bool.noConfusion h⟩
theorem fl_X5_24_X5 : z_FLg "GraphNames$Reader" 24 5 3 3 := ⟨"GraphNames$Reader", TX5, 10, tyX5, "GraphNames$Reader", rfl, inGX5, tyX5_ok, nmX5, by decide, (lw_good_at w_122 rfl), Or.inl rfl, rfl, rfl, by decide⟩
theorem fp_X5_24_X5 : z_FL "GraphNames$Reader" 24 5 3 3 true := ⟨"GraphNames$Reader", TX5, 10, tyX5, "GraphNames$Reader", rfl, inGX5, tyX5_ok, nmX5, by decide, (lw_good_at w_122 rfl), Or.inl rfl, rfl, rfl, rfl, by decide, fun _ => rfl⟩
theorem fl_X9_112_X5 : z_FLg "GraphNames" 112 5 3 3 := ⟨"GraphNames$Reader", TX5, 10, tyX5, "GraphNames$Reader", rfl, inGX5, tyX5_ok, nmX5, by decide, (lw_good_at w_123 rfl), Or.inl rfl, rfl, rfl, by decide⟩
theorem fl_X5_28_X5 : z_FLg "GraphNames$Reader" 28 5 4 3 := ⟨"GraphNames$Reader", TX5, 10, tyX5, "GraphNames$Reader", rfl, inGX5, tyX5_ok, nmX5, by decide, (lw_good_at w_124 rfl), Or.inl rfl, rfl, rfl, by decide⟩
theorem fp_X5_28_X5 : z_FL "GraphNames$Reader" 28 5 4 3 true := ⟨"GraphNames$Reader", TX5, 10, tyX5, "GraphNames$Reader", rfl, inGX5, tyX5_ok, nmX5, by decide, (lw_good_at w_124 rfl), Or.inl rfl, rfl, rfl, rfl, by decide, fun _ => rfl⟩
theorem fl_X5_32_X5 : z_FLg "GraphNames$Reader" 32 5 5 0 := ⟨"GraphNames$Reader", TX5, 10, tyX5, "GraphNames$Reader", rfl, inGX5, tyX5_ok, nmX5, by decide, (lw_good_at w_125 rfl), Or.inl rfl, rfl, rfl, by decide⟩
theorem fp_X5_32_X5 : z_FL "GraphNames$Reader" 32 5 5 0 false := ⟨"GraphNames$Reader", TX5, 10, tyX5, "GraphNames$Reader", rfl, inGX5, tyX5_ok, nmX5, by decide, (lw_good_at w_125 rfl), Or.inl rfl, rfl, rfl, rfl, by decide, fun h => Bool.noConfusion h⟩
theorem fl_X5_35_X5 : z_FLg "GraphNames$Reader" 35 5 6 0 := ⟨"GraphNames$Reader", TX5, 10, tyX5, "GraphNames$Reader", rfl, inGX5, tyX5_ok, nmX5, by decide, (lw_good_at w_126 rfl), Or.inl rfl, rfl, rfl, by decide⟩
theorem fp_X5_35_X5 : z_FL "GraphNames$Reader" 35 5 6 0 false := ⟨"GraphNames$Reader", TX5, 10, tyX5, "GraphNames$Reader", rfl, inGX5, tyX5_ok, nmX5, by decide, (lw_good_at w_126 rfl), Or.inl rfl, rfl, rfl, rfl, by decide, fun h => Bool.noConfusion h⟩
theorem fl_X5_38_X5 : z_FLg "GraphNames$Reader" 38 5 7 0 := ⟨"GraphNames$Reader", TX5, 10, tyX5, "GraphNames$Reader", rfl, inGX5, tyX5_ok, nmX5, by decide, (lw_good_at w_127 rfl), Or.inl rfl, rfl, rfl, by decide⟩
theorem fp_X5_38_X5 : z_FL "GraphNames$Reader" 38 5 7 0 false := ⟨"GraphNames$Reader", TX5, 10, tyX5, "GraphNames$Reader", rfl, inGX5, tyX5_ok, nmX5, by decide, (lw_good_at w_127 rfl), Or.inl rfl, rfl, rfl, rfl, by decide, fun h => Bool.noConfusion h⟩
theorem fl_X5_41_X5 : z_FLg "GraphNames$Reader" 41 5 8 0 := ⟨"GraphNames$Reader", TX5, 10, tyX5, "GraphNames$Reader", rfl, inGX5, tyX5_ok, nmX5, by decide, (lw_good_at w_128 rfl), Or.inl rfl, rfl, rfl, by decide⟩
theorem fp_X5_41_X5 : z_FL "GraphNames$Reader" 41 5 8 0 false := ⟨"GraphNames$Reader", TX5, 10, tyX5, "GraphNames$Reader", rfl, inGX5, tyX5_ok, nmX5, by decide, (lw_good_at w_128 rfl), Or.inl rfl, rfl, rfl, rfl, by decide, fun h => Bool.noConfusion h⟩
theorem fl_X5_44_X5 : z_FLg "GraphNames$Reader" 44 5 9 0 := ⟨"GraphNames$Reader", TX5, 10, tyX5, "GraphNames$Reader", rfl, inGX5, tyX5_ok, nmX5, by decide, (lw_good_at w_129 rfl), Or.inl rfl, rfl, rfl, by decide⟩
theorem fp_X5_44_X5 : z_FL "GraphNames$Reader" 44 5 9 0 false := ⟨"GraphNames$Reader", TX5, 10, tyX5, "GraphNames$Reader", rfl, inGX5, tyX5_ok, nmX5, by decide, (lw_good_at w_129 rfl), Or.inl rfl, rfl, rfl, rfl, by decide, fun h => Bool.noConfusion h⟩
theorem fl_X4_9_X4 : z_FLg "GraphNames$Past" 9 4 0 0 := ⟨"GraphNames$Past", TX4, 4, tyX4, "GraphNames$Past", rfl, inGX4, tyX4_ok, nmX4, by decide, (lw_good_at w_159 rfl), Or.inl rfl, rfl, rfl, by decide⟩
theorem fp_X4_9_X4 : z_FL "GraphNames$Past" 9 4 0 0 false := ⟨"GraphNames$Past", TX4, 4, tyX4, "GraphNames$Past", rfl, inGX4, tyX4_ok, nmX4, by decide, (lw_good_at w_159 rfl), Or.inl rfl, rfl, rfl, rfl, by decide, fun h => Bool.noConfusion h⟩
theorem fl_X4_15_X4 : z_FLg "GraphNames$Past" 15 4 1 0 := ⟨"GraphNames$Past", TX4, 4, tyX4, "GraphNames$Past", rfl, inGX4, tyX4_ok, nmX4, by decide, (lw_good_at w_160 rfl), Or.inl rfl, rfl, rfl, by decide⟩
theorem fp_X4_15_X4 : z_FL "GraphNames$Past" 15 4 1 0 false := ⟨"GraphNames$Past", TX4, 4, tyX4, "GraphNames$Past", rfl, inGX4, tyX4_ok, nmX4, by decide, (lw_good_at w_160 rfl), Or.inl rfl, rfl, rfl, rfl, by decide, fun h => Bool.noConfusion h⟩
theorem fl_X4_18_X4 : z_FLg "GraphNames$Past" 18 4 2 3 := ⟨"GraphNames$Past", TX4, 4, tyX4, "GraphNames$Past", rfl, inGX4, tyX4_ok, nmX4, by decide, (lw_good_at w_161 rfl), Or.inl rfl, rfl, rfl, by decide⟩
theorem fp_X4_18_X4 : z_FL "GraphNames$Past" 18 4 2 3 true := ⟨"GraphNames$Past", TX4, 4, tyX4, "GraphNames$Past", rfl, inGX4, tyX4_ok, nmX4, by decide, (lw_good_at w_161 rfl), Or.inl rfl, rfl, rfl, rfl, by decide, fun _ => rfl⟩
theorem fl_X4_24_X4 : z_FLg "GraphNames$Past" 24 4 3 3 := ⟨"GraphNames$Past", TX4, 4, tyX4, "GraphNames$Past", rfl, inGX4, tyX4_ok, nmX4, by decide, (lw_good_at w_162 rfl), Or.inl rfl, rfl, rfl, by decide⟩
theorem fp_X4_24_X4 : z_FL "GraphNames$Past" 24 4 3 3 true := ⟨"GraphNames$Past", TX4, 4, tyX4, "GraphNames$Past", rfl, inGX4, tyX4_ok, nmX4, by decide, (lw_good_at w_162 rfl), Or.inl rfl, rfl, rfl, rfl, by decide, fun _ => rfl⟩
theorem fl_X0_9_X0 : z_FLg "GraphNames$Cells" 9 0 0 0 := ⟨"GraphNames$Cells", TX0, 7, tyX0, "GraphNames$Cells", rfl, inGX0, tyX0_ok, nmX0, by decide, (lw_good_at w_178 rfl), Or.inl rfl, rfl, rfl, by decide⟩
theorem fp_X0_9_X0 : z_FL "GraphNames$Cells" 9 0 0 0 false := ⟨"GraphNames$Cells", TX0, 7, tyX0, "GraphNames$Cells", rfl, inGX0, tyX0_ok, nmX0, by decide, (lw_good_at w_178 rfl), Or.inl rfl, rfl, rfl, rfl, by decide, fun h => Bool.noConfusion h⟩
theorem fl_X9_135_X0 : z_FLg "GraphNames" 135 0 0 0 := ⟨"GraphNames$Cells", TX0, 7, tyX0, "GraphNames$Cells", rfl, inGX0, tyX0_ok, nmX0, by decide, (lw_good_at w_179 rfl), Or.inl rfl, rfl, rfl, by decide⟩
theorem fl_X0_15_X0 : z_FLg "GraphNames$Cells" 15 0 1 0 := ⟨"GraphNames$Cells", TX0, 7, tyX0, "GraphNames$Cells", rfl, inGX0, tyX0_ok, nmX0, by decide, (lw_good_at w_180 rfl), Or.inl rfl, rfl, rfl, by decide⟩
theorem fp_X0_15_X0 : z_FL "GraphNames$Cells" 15 0 1 0 false := ⟨"GraphNames$Cells", TX0, 7, tyX0, "GraphNames$Cells", rfl, inGX0, tyX0_ok, nmX0, by decide, (lw_good_at w_180 rfl), Or.inl rfl, rfl, rfl, rfl, by decide, fun h => Bool.noConfusion h⟩
theorem fl_X9_162_X0 : z_FLg "GraphNames" 162 0 1 0 := ⟨"GraphNames$Cells", TX0, 7, tyX0, "GraphNames$Cells", rfl, inGX0, tyX0_ok, nmX0, by decide, (lw_good_at w_181 rfl), Or.inl rfl, rfl, rfl, by decide⟩
theorem fl_X0_18_X0 : z_FLg "GraphNames$Cells" 18 0 2 3 := ⟨"GraphNames$Cells", TX0, 7, tyX0, "GraphNames$Cells", rfl, inGX0, tyX0_ok, nmX0, by decide, (lw_good_at w_182 rfl), Or.inl rfl, rfl, rfl, by decide⟩
theorem fp_X0_18_X0 : z_FL "GraphNames$Cells" 18 0 2 3 true := ⟨"GraphNames$Cells", TX0, 7, tyX0, "GraphNames$Cells", rfl, inGX0, tyX0_ok, nmX0, by decide, (lw_good_at w_182 rfl), Or.inl rfl, rfl, rfl, rfl, by decide, fun _ => rfl⟩
theorem fl_X2_33_X0 : z_FLg "GraphNames$Leaf" 33 0 2 3 := ⟨"GraphNames$Cells", TX0, 7, tyX0, "GraphNames$Cells", rfl, inGX0, tyX0_ok, nmX0, by decide, (lw_good_at w_183 rfl), Or.inl rfl, rfl, rfl, by decide⟩
theorem fl_X9_171_X0 : z_FLg "GraphNames" 171 0 2 3 := ⟨"GraphNames$Cells", TX0, 7, tyX0, "GraphNames$Cells", rfl, inGX0, tyX0_ok, nmX0, by decide, (lw_good_at w_184 rfl), Or.inl rfl, rfl, rfl, by decide⟩
theorem fl_X0_22_X0 : z_FLg "GraphNames$Cells" 22 0 3 3 := ⟨"GraphNames$Cells", TX0, 7, tyX0, "GraphNames$Cells", rfl, inGX0, tyX0_ok, nmX0, by decide, (lw_good_at w_185 rfl), Or.inl rfl, rfl, rfl, by decide⟩
theorem fp_X0_22_X0 : z_FL "GraphNames$Cells" 22 0 3 3 true := ⟨"GraphNames$Cells", TX0, 7, tyX0, "GraphNames$Cells", rfl, inGX0, tyX0_ok, nmX0, by decide, (lw_good_at w_185 rfl), Or.inl rfl, rfl, rfl, rfl, by decide, fun _ => rfl⟩
theorem fl_X0_26_X0 : z_FLg "GraphNames$Cells" 26 0 4 3 := ⟨"GraphNames$Cells", TX0, 7, tyX0, "GraphNames$Cells", rfl, inGX0, tyX0_ok, nmX0, by decide, (lw_good_at w_186 rfl), Or.inl rfl, rfl, rfl, by decide⟩
theorem fp_X0_26_X0 : z_FL "GraphNames$Cells" 26 0 4 3 true := ⟨"GraphNames$Cells", TX0, 7, tyX0, "GraphNames$Cells", rfl, inGX0, tyX0_ok, nmX0, by decide, (lw_good_at w_186 rfl), Or.inl rfl, rfl, rfl, rfl, by decide, fun _ => rfl⟩
theorem fl_X0_29_X0 : z_FLg "GraphNames$Cells" 29 0 5 3 := ⟨"GraphNames$Cells", TX0, 7, tyX0, "GraphNames$Cells", rfl, inGX0, tyX0_ok, nmX0, by decide, (lw_good_at w_187 rfl), Or.inl rfl, rfl, rfl, by decide⟩
theorem fp_X0_29_X0 : z_FL "GraphNames$Cells" 29 0 5 3 true := ⟨"GraphNames$Cells", TX0, 7, tyX0, "GraphNames$Cells", rfl, inGX0, tyX0_ok, nmX0, by decide, (lw_good_at w_187 rfl), Or.inl rfl, rfl, rfl, rfl, by decide, fun _ => rfl⟩
theorem fl_X0_32_X0 : z_FLg "GraphNames$Cells" 32 0 6 0 := ⟨"GraphNames$Cells", TX0, 7, tyX0, "GraphNames$Cells", rfl, inGX0, tyX0_ok, nmX0, by decide, (lw_good_at w_188 rfl), Or.inl rfl, rfl, rfl, by decide⟩
theorem fp_X0_32_X0 : z_FL "GraphNames$Cells" 32 0 6 0 false := ⟨"GraphNames$Cells", TX0, 7, tyX0, "GraphNames$Cells", rfl, inGX0, tyX0_ok, nmX0, by decide, (lw_good_at w_188 rfl), Or.inl rfl, rfl, rfl, rfl, by decide, fun h => Bool.noConfusion h⟩
theorem fl_X3_9_X3 : z_FLg "GraphNames$Pairing" 9 3 0 0 := ⟨"GraphNames$Pairing", TX3, 8, tyX3, "GraphNames$Pairing", rfl, inGX3, tyX3_ok, nmX3, by decide, (lw_good_at w_214 rfl), Or.inl rfl, rfl, rfl, by decide⟩
theorem fp_X3_9_X3 : z_FL "GraphNames$Pairing" 9 3 0 0 false := ⟨"GraphNames$Pairing", TX3, 8, tyX3, "GraphNames$Pairing", rfl, inGX3, tyX3_ok, nmX3, by decide, (lw_good_at w_214 rfl), Or.inl rfl, rfl, rfl, rfl, by decide, fun h => Bool.noConfusion h⟩
theorem fl_X9_249_X3 : z_FLg "GraphNames" 249 3 0 0 := ⟨"GraphNames$Pairing", TX3, 8, tyX3, "GraphNames$Pairing", rfl, inGX3, tyX3_ok, nmX3, by decide, (lw_good_at w_215 rfl), Or.inl rfl, rfl, rfl, by decide⟩
theorem fl_X3_15_X3 : z_FLg "GraphNames$Pairing" 15 3 1 3 := ⟨"GraphNames$Pairing", TX3, 8, tyX3, "GraphNames$Pairing", rfl, inGX3, tyX3_ok, nmX3, by decide, (lw_good_at w_216 rfl), Or.inl rfl, rfl, rfl, by decide⟩
theorem fp_X3_15_X3 : z_FL "GraphNames$Pairing" 15 3 1 3 true := ⟨"GraphNames$Pairing", TX3, 8, tyX3, "GraphNames$Pairing", rfl, inGX3, tyX3_ok, nmX3, by decide, (lw_good_at w_216 rfl), Or.inl rfl, rfl, rfl, rfl, by decide, fun _ => rfl⟩
theorem fl_X9_264_X3 : z_FLg "GraphNames" 264 3 1 3 := ⟨"GraphNames$Pairing", TX3, 8, tyX3, "GraphNames$Pairing", rfl, inGX3, tyX3_ok, nmX3, by decide, (lw_good_at w_217 rfl), Or.inl rfl, rfl, rfl, by decide⟩
theorem fl_X3_19_X3 : z_FLg "GraphNames$Pairing" 19 3 2 3 := ⟨"GraphNames$Pairing", TX3, 8, tyX3, "GraphNames$Pairing", rfl, inGX3, tyX3_ok, nmX3, by decide, (lw_good_at w_218 rfl), Or.inl rfl, rfl, rfl, by decide⟩
theorem fp_X3_19_X3 : z_FL "GraphNames$Pairing" 19 3 2 3 true := ⟨"GraphNames$Pairing", TX3, 8, tyX3, "GraphNames$Pairing", rfl, inGX3, tyX3_ok, nmX3, by decide, (lw_good_at w_218 rfl), Or.inl rfl, rfl, rfl, rfl, by decide, fun _ => rfl⟩
theorem fl_X9_258_X3 : z_FLg "GraphNames" 258 3 2 3 := ⟨"GraphNames$Pairing", TX3, 8, tyX3, "GraphNames$Pairing", rfl, inGX3, tyX3_ok, nmX3, by decide, (lw_good_at w_219 rfl), Or.inl rfl, rfl, rfl, by decide⟩
theorem fl_X3_25_X3 : z_FLg "GraphNames$Pairing" 25 3 3 3 := ⟨"GraphNames$Pairing", TX3, 8, tyX3, "GraphNames$Pairing", rfl, inGX3, tyX3_ok, nmX3, by decide, (lw_good_at w_220 rfl), Or.inl rfl, rfl, rfl, by decide⟩
theorem fp_X3_25_X3 : z_FL "GraphNames$Pairing" 25 3 3 3 true := ⟨"GraphNames$Pairing", TX3, 8, tyX3, "GraphNames$Pairing", rfl, inGX3, tyX3_ok, nmX3, by decide, (lw_good_at w_220 rfl), Or.inl rfl, rfl, rfl, rfl, by decide, fun _ => rfl⟩
theorem fl_X3_29_X3 : z_FLg "GraphNames$Pairing" 29 3 4 3 := ⟨"GraphNames$Pairing", TX3, 8, tyX3, "GraphNames$Pairing", rfl, inGX3, tyX3_ok, nmX3, by decide, (lw_good_at w_221 rfl), Or.inl rfl, rfl, rfl, by decide⟩
theorem fp_X3_29_X3 : z_FL "GraphNames$Pairing" 29 3 4 3 true := ⟨"GraphNames$Pairing", TX3, 8, tyX3, "GraphNames$Pairing", rfl, inGX3, tyX3_ok, nmX3, by decide, (lw_good_at w_221 rfl), Or.inl rfl, rfl, rfl, rfl, by decide, fun _ => rfl⟩
theorem fl_X3_32_X3 : z_FLg "GraphNames$Pairing" 32 3 5 3 := ⟨"GraphNames$Pairing", TX3, 8, tyX3, "GraphNames$Pairing", rfl, inGX3, tyX3_ok, nmX3, by decide, (lw_good_at w_222 rfl), Or.inl rfl, rfl, rfl, by decide⟩
theorem fp_X3_32_X3 : z_FL "GraphNames$Pairing" 32 3 5 3 true := ⟨"GraphNames$Pairing", TX3, 8, tyX3, "GraphNames$Pairing", rfl, inGX3, tyX3_ok, nmX3, by decide, (lw_good_at w_222 rfl), Or.inl rfl, rfl, rfl, rfl, by decide, fun _ => rfl⟩
theorem fl_X3_35_X3 : z_FLg "GraphNames$Pairing" 35 3 6 0 := ⟨"GraphNames$Pairing", TX3, 8, tyX3, "GraphNames$Pairing", rfl, inGX3, tyX3_ok, nmX3, by decide, (lw_good_at w_223 rfl), Or.inl rfl, rfl, rfl, by decide⟩
theorem fp_X3_35_X3 : z_FL "GraphNames$Pairing" 35 3 6 0 false := ⟨"GraphNames$Pairing", TX3, 8, tyX3, "GraphNames$Pairing", rfl, inGX3, tyX3_ok, nmX3, by decide, (lw_good_at w_223 rfl), Or.inl rfl, rfl, rfl, rfl, by decide, fun h => Bool.noConfusion h⟩
theorem fl_X3_38_X3 : z_FLg "GraphNames$Pairing" 38 3 7 0 := ⟨"GraphNames$Pairing", TX3, 8, tyX3, "GraphNames$Pairing", rfl, inGX3, tyX3_ok, nmX3, by decide, (lw_good_at w_224 rfl), Or.inl rfl, rfl, rfl, by decide⟩
theorem fp_X3_38_X3 : z_FL "GraphNames$Pairing" 38 3 7 0 false := ⟨"GraphNames$Pairing", TX3, 8, tyX3, "GraphNames$Pairing", rfl, inGX3, tyX3_ok, nmX3, by decide, (lw_good_at w_224 rfl), Or.inl rfl, rfl, rfl, rfl, by decide, fun h => Bool.noConfusion h⟩
theorem fl_X2_9_X2 : z_FLg "GraphNames$Leaf" 9 2 0 0 := ⟨"GraphNames$Leaf", TX2, 5, tyX2, "GraphNames$Leaf", rfl, inGX2, tyX2_ok, nmX2, by decide, (lw_good_at w_261 rfl), Or.inl rfl, rfl, rfl, by decide⟩
theorem fp_X2_9_X2 : z_FL "GraphNames$Leaf" 9 2 0 0 false := ⟨"GraphNames$Leaf", TX2, 5, tyX2, "GraphNames$Leaf", rfl, inGX2, tyX2_ok, nmX2, by decide, (lw_good_at w_261 rfl), Or.inl rfl, rfl, rfl, rfl, by decide, fun h => Bool.noConfusion h⟩
theorem fl_X7_20_X2 : z_FLg "GraphNames$Tree" 20 2 0 0 := ⟨"GraphNames$Leaf", TX2, 5, tyX2, "GraphNames$Leaf", rfl, inGX2, tyX2_ok, nmX2, by decide, (lw_good_at w_262 rfl), Or.inl rfl, rfl, rfl, by decide⟩
theorem fl_X2_15_X2 : z_FLg "GraphNames$Leaf" 15 2 1 0 := ⟨"GraphNames$Leaf", TX2, 5, tyX2, "GraphNames$Leaf", rfl, inGX2, tyX2_ok, nmX2, by decide, (lw_good_at w_263 rfl), Or.inl rfl, rfl, rfl, by decide⟩
theorem fp_X2_15_X2 : z_FL "GraphNames$Leaf" 15 2 1 0 false := ⟨"GraphNames$Leaf", TX2, 5, tyX2, "GraphNames$Leaf", rfl, inGX2, tyX2_ok, nmX2, by decide, (lw_good_at w_263 rfl), Or.inl rfl, rfl, rfl, rfl, by decide, fun h => Bool.noConfusion h⟩
theorem fl_X9_225_X2 : z_FLg "GraphNames" 225 2 1 0 := ⟨"GraphNames$Leaf", TX2, 5, tyX2, "GraphNames$Leaf", rfl, inGX2, tyX2_ok, nmX2, by decide, (lw_good_at w_264 rfl), Or.inl rfl, rfl, rfl, by decide⟩
theorem fl_X2_18_X2 : z_FLg "GraphNames$Leaf" 18 2 2 3 := ⟨"GraphNames$Leaf", TX2, 5, tyX2, "GraphNames$Leaf", rfl, inGX2, tyX2_ok, nmX2, by decide, (lw_good_at w_265 rfl), Or.inl rfl, rfl, rfl, by decide⟩
theorem fp_X2_18_X2 : z_FL "GraphNames$Leaf" 18 2 2 3 true := ⟨"GraphNames$Leaf", TX2, 5, tyX2, "GraphNames$Leaf", rfl, inGX2, tyX2_ok, nmX2, by decide, (lw_good_at w_265 rfl), Or.inl rfl, rfl, rfl, rfl, by decide, fun _ => rfl⟩
theorem fl_X8_66_X2 : z_FLg "GraphNames$Walk" 66 2 2 3 := ⟨"GraphNames$Leaf", TX2, 5, tyX2, "GraphNames$Leaf", rfl, inGX2, tyX2_ok, nmX2, by decide, (lw_good_at w_266 rfl), Or.inl rfl, rfl, rfl, by decide⟩
theorem fl_X6_61_X2 : z_FLg "GraphNames$Search" 61 2 2 3 := ⟨"GraphNames$Leaf", TX2, 5, tyX2, "GraphNames$Leaf", rfl, inGX2, tyX2_ok, nmX2, by decide, (lw_good_at w_267 rfl), Or.inl rfl, rfl, rfl, by decide⟩
theorem fl_X9_200_X2 : z_FLg "GraphNames" 200 2 2 3 := ⟨"GraphNames$Leaf", TX2, 5, tyX2, "GraphNames$Leaf", rfl, inGX2, tyX2_ok, nmX2, by decide, (lw_good_at w_268 rfl), Or.inl rfl, rfl, rfl, by decide⟩
theorem fl_X2_22_X2 : z_FLg "GraphNames$Leaf" 22 2 3 3 := ⟨"GraphNames$Leaf", TX2, 5, tyX2, "GraphNames$Leaf", rfl, inGX2, tyX2_ok, nmX2, by decide, (lw_good_at w_269 rfl), Or.inl rfl, rfl, rfl, by decide⟩
theorem fp_X2_22_X2 : z_FL "GraphNames$Leaf" 22 2 3 3 true := ⟨"GraphNames$Leaf", TX2, 5, tyX2, "GraphNames$Leaf", rfl, inGX2, tyX2_ok, nmX2, by decide, (lw_good_at w_269 rfl), Or.inl rfl, rfl, rfl, rfl, by decide, fun _ => rfl⟩
theorem fl_X9_228_X2 : z_FLg "GraphNames" 228 2 3 3 := ⟨"GraphNames$Leaf", TX2, 5, tyX2, "GraphNames$Leaf", rfl, inGX2, tyX2_ok, nmX2, by decide, (lw_good_at w_270 rfl), Or.inl rfl, rfl, rfl, by decide⟩
theorem fl_X2_25_X2 : z_FLg "GraphNames$Leaf" 25 2 4 3 := ⟨"GraphNames$Leaf", TX2, 5, tyX2, "GraphNames$Leaf", rfl, inGX2, tyX2_ok, nmX2, by decide, (lw_good_at w_271 rfl), Or.inl rfl, rfl, rfl, by decide⟩
theorem fp_X2_25_X2 : z_FL "GraphNames$Leaf" 25 2 4 3 true := ⟨"GraphNames$Leaf", TX2, 5, tyX2, "GraphNames$Leaf", rfl, inGX2, tyX2_ok, nmX2, by decide, (lw_good_at w_271 rfl), Or.inl rfl, rfl, rfl, rfl, by decide, fun _ => rfl⟩
theorem fl_X6_78_X2 : z_FLg "GraphNames$Search" 78 2 4 3 := ⟨"GraphNames$Leaf", TX2, 5, tyX2, "GraphNames$Leaf", rfl, inGX2, tyX2_ok, nmX2, by decide, (lw_good_at w_272 rfl), Or.inl rfl, rfl, rfl, by decide⟩
theorem fl_X9_231_X2 : z_FLg "GraphNames" 231 2 4 3 := ⟨"GraphNames$Leaf", TX2, 5, tyX2, "GraphNames$Leaf", rfl, inGX2, tyX2_ok, nmX2, by decide, (lw_good_at w_273 rfl), Or.inl rfl, rfl, rfl, by decide⟩
theorem fl_X6_9_X6 : z_FLg "GraphNames$Search" 9 6 9 0 := ⟨"GraphNames$Search", TX6, 13, tyX6, "GraphNames$Search", rfl, inGX6, tyX6_ok, nmX6, by decide, (lw_good_at w_288 rfl), Or.inl rfl, rfl, rfl, by decide⟩
theorem fp_X6_9_X6 : z_FL "GraphNames$Search" 9 6 9 0 false := ⟨"GraphNames$Search", TX6, 13, tyX6, "GraphNames$Search", rfl, inGX6, tyX6_ok, nmX6, by decide, (lw_good_at w_288 rfl), Or.inl rfl, rfl, rfl, rfl, by decide, fun h => Bool.noConfusion h⟩
theorem fl_X9_218_X6 : z_FLg "GraphNames" 218 6 9 0 := ⟨"GraphNames$Search", TX6, 13, tyX6, "GraphNames$Search", rfl, inGX6, tyX6_ok, nmX6, by decide, (lw_good_at w_289 rfl), Or.inl rfl, rfl, rfl, by decide⟩
theorem fl_X6_15_X6 : z_FLg "GraphNames$Search" 15 6 10 0 := ⟨"GraphNames$Search", TX6, 13, tyX6, "GraphNames$Search", rfl, inGX6, tyX6_ok, nmX6, by decide, (lw_good_at w_290 rfl), Or.inl rfl, rfl, rfl, by decide⟩
theorem fp_X6_15_X6 : z_FL "GraphNames$Search" 15 6 10 0 false := ⟨"GraphNames$Search", TX6, 13, tyX6, "GraphNames$Search", rfl, inGX6, tyX6_ok, nmX6, by decide, (lw_good_at w_290 rfl), Or.inl rfl, rfl, rfl, rfl, by decide, fun h => Bool.noConfusion h⟩
theorem fl_X9_221_X6 : z_FLg "GraphNames" 221 6 10 0 := ⟨"GraphNames$Search", TX6, 13, tyX6, "GraphNames$Search", rfl, inGX6, tyX6_ok, nmX6, by decide, (lw_good_at w_291 rfl), Or.inl rfl, rfl, rfl, by decide⟩
theorem fl_X6_18_X6 : z_FLg "GraphNames$Search" 18 6 11 3 := ⟨"GraphNames$Search", TX6, 13, tyX6, "GraphNames$Search", rfl, inGX6, tyX6_ok, nmX6, by decide, (lw_good_at w_292 rfl), Or.inl rfl, rfl, rfl, by decide⟩
theorem fp_X6_18_X6 : z_FL "GraphNames$Search" 18 6 11 3 true := ⟨"GraphNames$Search", TX6, 13, tyX6, "GraphNames$Search", rfl, inGX6, tyX6_ok, nmX6, by decide, (lw_good_at w_292 rfl), Or.inl rfl, rfl, rfl, rfl, by decide, fun _ => rfl⟩
theorem fl_X9_238_X6 : z_FLg "GraphNames" 238 6 11 3 := ⟨"GraphNames$Search", TX6, 13, tyX6, "GraphNames$Search", rfl, inGX6, tyX6_ok, nmX6, by decide, (lw_good_at w_293 rfl), Or.inl rfl, rfl, rfl, by decide⟩
theorem fl_X6_25_X6 : z_FLg "GraphNames$Search" 25 6 12 3 := ⟨"GraphNames$Search", TX6, 13, tyX6, "GraphNames$Search", rfl, inGX6, tyX6_ok, nmX6, by decide, (lw_good_at w_294 rfl), Or.inl rfl, rfl, rfl, by decide⟩
theorem fp_X6_25_X6 : z_FL "GraphNames$Search" 25 6 12 3 true := ⟨"GraphNames$Search", TX6, 13, tyX6, "GraphNames$Search", rfl, inGX6, tyX6_ok, nmX6, by decide, (lw_good_at w_294 rfl), Or.inl rfl, rfl, rfl, rfl, by decide, fun _ => rfl⟩
theorem fl_X8_12_X6 : z_FLg "GraphNames$Walk" 12 6 0 3 := ⟨"GraphNames$Search", TX6, 13, tyX6, "GraphNames$Walk", rfl, inGX6, tyX6_ok, nmX6, by decide, (lw_good_at w_295 rfl), Or.inl rfl, rfl, rfl, by decide⟩
theorem fp_X8_12_X6 : z_FL "GraphNames$Walk" 12 6 0 3 true := ⟨"GraphNames$Search", TX6, 13, tyX6, "GraphNames$Walk", rfl, inGX6, tyX6_ok, nmX6, by decide, (lw_good_at w_295 rfl), Or.inl rfl, rfl, rfl, rfl, by decide, fun _ => rfl⟩
theorem fl_X8_12_X7 : z_FLg "GraphNames$Walk" 12 7 0 3 := ⟨"GraphNames$Tree", TX7, 11, tyX7, "GraphNames$Walk", rfl, inGX7, tyX7_ok, nmX7, by decide, (lw_good_at w_295 rfl), Or.inl rfl, rfl, rfl, by decide⟩
theorem fp_X8_12_X7 : z_FL "GraphNames$Walk" 12 7 0 3 true := ⟨"GraphNames$Tree", TX7, 11, tyX7, "GraphNames$Walk", rfl, inGX7, tyX7_ok, nmX7, by decide, (lw_good_at w_295 rfl), Or.inl rfl, rfl, rfl, rfl, by decide, fun _ => rfl⟩
theorem fl_X6_43_X6 : z_FLg "GraphNames$Search" 43 6 0 3 := ⟨"GraphNames$Search", TX6, 13, tyX6, "GraphNames$Search", rfl, inGX6, tyX6_ok, nmX6, by decide, (lw_good_at w_296 rfl), Or.inr (lw_good_at w_297 rfl), rfl, rfl, by decide⟩
theorem fl_X8_20_X6 : z_FLg "GraphNames$Walk" 20 6 1 3 := ⟨"GraphNames$Search", TX6, 13, tyX6, "GraphNames$Walk", rfl, inGX6, tyX6_ok, nmX6, by decide, (lw_good_at w_298 rfl), Or.inl rfl, rfl, rfl, by decide⟩
theorem fp_X8_20_X6 : z_FL "GraphNames$Walk" 20 6 1 3 true := ⟨"GraphNames$Search", TX6, 13, tyX6, "GraphNames$Walk", rfl, inGX6, tyX6_ok, nmX6, by decide, (lw_good_at w_298 rfl), Or.inl rfl, rfl, rfl, rfl, by decide, fun _ => rfl⟩
theorem fl_X8_20_X7 : z_FLg "GraphNames$Walk" 20 7 1 3 := ⟨"GraphNames$Tree", TX7, 11, tyX7, "GraphNames$Walk", rfl, inGX7, tyX7_ok, nmX7, by decide, (lw_good_at w_298 rfl), Or.inl rfl, rfl, rfl, by decide⟩
theorem fp_X8_20_X7 : z_FL "GraphNames$Walk" 20 7 1 3 true := ⟨"GraphNames$Tree", TX7, 11, tyX7, "GraphNames$Walk", rfl, inGX7, tyX7_ok, nmX7, by decide, (lw_good_at w_298 rfl), Or.inl rfl, rfl, rfl, rfl, by decide, fun _ => rfl⟩
theorem fl_X8_27_X6 : z_FLg "GraphNames$Walk" 27 6 2 3 := ⟨"GraphNames$Search", TX6, 13, tyX6, "GraphNames$Walk", rfl, inGX6, tyX6_ok, nmX6, by decide, (lw_good_at w_299 rfl), Or.inl rfl, rfl, rfl, by decide⟩
theorem fp_X8_27_X6 : z_FL "GraphNames$Walk" 27 6 2 3 true := ⟨"GraphNames$Search", TX6, 13, tyX6, "GraphNames$Walk", rfl, inGX6, tyX6_ok, nmX6, by decide, (lw_good_at w_299 rfl), Or.inl rfl, rfl, rfl, rfl, by decide, fun _ => rfl⟩
theorem fl_X8_27_X7 : z_FLg "GraphNames$Walk" 27 7 2 3 := ⟨"GraphNames$Tree", TX7, 11, tyX7, "GraphNames$Walk", rfl, inGX7, tyX7_ok, nmX7, by decide, (lw_good_at w_299 rfl), Or.inl rfl, rfl, rfl, by decide⟩
theorem fp_X8_27_X7 : z_FL "GraphNames$Walk" 27 7 2 3 true := ⟨"GraphNames$Tree", TX7, 11, tyX7, "GraphNames$Walk", rfl, inGX7, tyX7_ok, nmX7, by decide, (lw_good_at w_299 rfl), Or.inl rfl, rfl, rfl, rfl, by decide, fun _ => rfl⟩
theorem fl_X7_16_X7 : z_FLg "GraphNames$Tree" 16 7 2 3 := ⟨"GraphNames$Tree", TX7, 11, tyX7, "GraphNames$Tree", rfl, inGX7, tyX7_ok, nmX7, by decide, (lw_good_at w_300 rfl), Or.inr (lw_good_at w_301 rfl), rfl, rfl, by decide⟩
theorem fl_X6_58_X6 : z_FLg "GraphNames$Search" 58 6 2 3 := ⟨"GraphNames$Search", TX6, 13, tyX6, "GraphNames$Search", rfl, inGX6, tyX6_ok, nmX6, by decide, (lw_good_at w_302 rfl), Or.inr (lw_good_at w_303 rfl), rfl, rfl, by decide⟩
theorem fp_X8_31_X6 : z_FL "GraphNames$Walk" 31 6 3 3 true := ⟨"GraphNames$Search", TX6, 13, tyX6, "GraphNames$Walk", rfl, inGX6, tyX6_ok, nmX6, by decide, (lw_good_at w_304 rfl), Or.inl rfl, rfl, rfl, rfl, by decide, fun _ => rfl⟩
theorem fp_X8_31_X7 : z_FL "GraphNames$Walk" 31 7 3 3 true := ⟨"GraphNames$Tree", TX7, 11, tyX7, "GraphNames$Walk", rfl, inGX7, tyX7_ok, nmX7, by decide, (lw_good_at w_304 rfl), Or.inl rfl, rfl, rfl, rfl, by decide, fun _ => rfl⟩
theorem fl_X7_34_X7 : z_FLg "GraphNames$Tree" 34 7 3 3 := ⟨"GraphNames$Tree", TX7, 11, tyX7, "GraphNames$Tree", rfl, inGX7, tyX7_ok, nmX7, by decide, (lw_good_at w_305 rfl), Or.inr (lw_good_at w_306 rfl), rfl, rfl, by decide⟩
theorem fl_X6_64_X6 : z_FLg "GraphNames$Search" 64 6 3 3 := ⟨"GraphNames$Search", TX6, 13, tyX6, "GraphNames$Search", rfl, inGX6, tyX6_ok, nmX6, by decide, (lw_good_at w_307 rfl), Or.inr (lw_good_at w_308 rfl), rfl, rfl, by decide⟩
theorem fl_X9_196_X7 : z_FLg "GraphNames" 196 7 3 3 := ⟨"GraphNames$Tree", TX7, 11, tyX7, "GraphNames$Tree", rfl, inGX7, tyX7_ok, nmX7, by decide, (lw_good_at w_309 rfl), Or.inr (lw_good_at w_306 rfl), rfl, rfl, by decide⟩
theorem fl_X9_224_X6 : z_FLg "GraphNames" 224 6 3 3 := ⟨"GraphNames$Search", TX6, 13, tyX6, "GraphNames$Search", rfl, inGX6, tyX6_ok, nmX6, by decide, (lw_good_at w_310 rfl), Or.inr (lw_good_at w_308 rfl), rfl, rfl, by decide⟩
theorem fl_X8_34_X6 : z_FLg "GraphNames$Walk" 34 6 4 0 := ⟨"GraphNames$Search", TX6, 13, tyX6, "GraphNames$Walk", rfl, inGX6, tyX6_ok, nmX6, by decide, (lw_good_at w_311 rfl), Or.inl rfl, rfl, rfl, by decide⟩
theorem fp_X8_34_X6 : z_FL "GraphNames$Walk" 34 6 4 0 false := ⟨"GraphNames$Search", TX6, 13, tyX6, "GraphNames$Walk", rfl, inGX6, tyX6_ok, nmX6, by decide, (lw_good_at w_311 rfl), Or.inl rfl, rfl, rfl, rfl, by decide, fun h => Bool.noConfusion h⟩
theorem fl_X8_34_X7 : z_FLg "GraphNames$Walk" 34 7 4 0 := ⟨"GraphNames$Tree", TX7, 11, tyX7, "GraphNames$Walk", rfl, inGX7, tyX7_ok, nmX7, by decide, (lw_good_at w_311 rfl), Or.inl rfl, rfl, rfl, by decide⟩
theorem fp_X8_34_X7 : z_FL "GraphNames$Walk" 34 7 4 0 false := ⟨"GraphNames$Tree", TX7, 11, tyX7, "GraphNames$Walk", rfl, inGX7, tyX7_ok, nmX7, by decide, (lw_good_at w_311 rfl), Or.inl rfl, rfl, rfl, rfl, by decide, fun h => Bool.noConfusion h⟩
theorem fl_X9_187_X7 : z_FLg "GraphNames" 187 7 4 0 := ⟨"GraphNames$Tree", TX7, 11, tyX7, "GraphNames$Tree", rfl, inGX7, tyX7_ok, nmX7, by decide, (lw_good_at w_312 rfl), Or.inr (lw_good_at w_313 rfl), rfl, rfl, by decide⟩
theorem fl_X9_210_X6 : z_FLg "GraphNames" 210 6 4 0 := ⟨"GraphNames$Search", TX6, 13, tyX6, "GraphNames$Search", rfl, inGX6, tyX6_ok, nmX6, by decide, (lw_good_at w_314 rfl), Or.inr (lw_good_at w_315 rfl), rfl, rfl, by decide⟩
theorem fl_X8_38_X6 : z_FLg "GraphNames$Walk" 38 6 5 0 := ⟨"GraphNames$Search", TX6, 13, tyX6, "GraphNames$Walk", rfl, inGX6, tyX6_ok, nmX6, by decide, (lw_good_at w_316 rfl), Or.inl rfl, rfl, rfl, by decide⟩
theorem fp_X8_38_X6 : z_FL "GraphNames$Walk" 38 6 5 0 false := ⟨"GraphNames$Search", TX6, 13, tyX6, "GraphNames$Walk", rfl, inGX6, tyX6_ok, nmX6, by decide, (lw_good_at w_316 rfl), Or.inl rfl, rfl, rfl, rfl, by decide, fun h => Bool.noConfusion h⟩
theorem fl_X8_38_X7 : z_FLg "GraphNames$Walk" 38 7 5 0 := ⟨"GraphNames$Tree", TX7, 11, tyX7, "GraphNames$Walk", rfl, inGX7, tyX7_ok, nmX7, by decide, (lw_good_at w_316 rfl), Or.inl rfl, rfl, rfl, by decide⟩
theorem fp_X8_38_X7 : z_FL "GraphNames$Walk" 38 7 5 0 false := ⟨"GraphNames$Tree", TX7, 11, tyX7, "GraphNames$Walk", rfl, inGX7, tyX7_ok, nmX7, by decide, (lw_good_at w_316 rfl), Or.inl rfl, rfl, rfl, rfl, by decide, fun h => Bool.noConfusion h⟩
theorem fl_X7_31_X7 : z_FLg "GraphNames$Tree" 31 7 5 0 := ⟨"GraphNames$Tree", TX7, 11, tyX7, "GraphNames$Tree", rfl, inGX7, tyX7_ok, nmX7, by decide, (lw_good_at w_317 rfl), Or.inr (lw_good_at w_318 rfl), rfl, rfl, by decide⟩
theorem fl_X6_55_X6 : z_FLg "GraphNames$Search" 55 6 5 0 := ⟨"GraphNames$Search", TX6, 13, tyX6, "GraphNames$Search", rfl, inGX6, tyX6_ok, nmX6, by decide, (lw_good_at w_319 rfl), Or.inr (lw_good_at w_320 rfl), rfl, rfl, by decide⟩
theorem fl_X9_190_X7 : z_FLg "GraphNames" 190 7 5 0 := ⟨"GraphNames$Tree", TX7, 11, tyX7, "GraphNames$Tree", rfl, inGX7, tyX7_ok, nmX7, by decide, (lw_good_at w_321 rfl), Or.inr (lw_good_at w_318 rfl), rfl, rfl, by decide⟩
theorem fl_X9_211_X6 : z_FLg "GraphNames" 211 6 5 0 := ⟨"GraphNames$Search", TX6, 13, tyX6, "GraphNames$Search", rfl, inGX6, tyX6_ok, nmX6, by decide, (lw_good_at w_322 rfl), Or.inr (lw_good_at w_320 rfl), rfl, rfl, by decide⟩
theorem fl_X8_41_X6 : z_FLg "GraphNames$Walk" 41 6 6 0 := ⟨"GraphNames$Search", TX6, 13, tyX6, "GraphNames$Walk", rfl, inGX6, tyX6_ok, nmX6, by decide, (lw_good_at w_323 rfl), Or.inl rfl, rfl, rfl, by decide⟩
theorem fp_X8_41_X6 : z_FL "GraphNames$Walk" 41 6 6 0 false := ⟨"GraphNames$Search", TX6, 13, tyX6, "GraphNames$Walk", rfl, inGX6, tyX6_ok, nmX6, by decide, (lw_good_at w_323 rfl), Or.inl rfl, rfl, rfl, rfl, by decide, fun h => Bool.noConfusion h⟩
theorem fl_X8_41_X7 : z_FLg "GraphNames$Walk" 41 7 6 0 := ⟨"GraphNames$Tree", TX7, 11, tyX7, "GraphNames$Walk", rfl, inGX7, tyX7_ok, nmX7, by decide, (lw_good_at w_323 rfl), Or.inl rfl, rfl, rfl, by decide⟩
theorem fp_X8_41_X7 : z_FL "GraphNames$Walk" 41 7 6 0 false := ⟨"GraphNames$Tree", TX7, 11, tyX7, "GraphNames$Walk", rfl, inGX7, tyX7_ok, nmX7, by decide, (lw_good_at w_323 rfl), Or.inl rfl, rfl, rfl, rfl, by decide, fun h => Bool.noConfusion h⟩
theorem fl_X9_212_X6 : z_FLg "GraphNames" 212 6 6 0 := ⟨"GraphNames$Search", TX6, 13, tyX6, "GraphNames$Search", rfl, inGX6, tyX6_ok, nmX6, by decide, (lw_good_at w_324 rfl), Or.inr (lw_good_at w_325 rfl), rfl, rfl, by decide⟩
theorem fl_X8_44_X6 : z_FLg "GraphNames$Walk" 44 6 7 0 := ⟨"GraphNames$Search", TX6, 13, tyX6, "GraphNames$Walk", rfl, inGX6, tyX6_ok, nmX6, by decide, (lw_good_at w_326 rfl), Or.inl rfl, rfl, rfl, by decide⟩
theorem fp_X8_44_X6 : z_FL "GraphNames$Walk" 44 6 7 0 false := ⟨"GraphNames$Search", TX6, 13, tyX6, "GraphNames$Walk", rfl, inGX6, tyX6_ok, nmX6, by decide, (lw_good_at w_326 rfl), Or.inl rfl, rfl, rfl, rfl, by decide, fun h => Bool.noConfusion h⟩
theorem fl_X8_44_X7 : z_FLg "GraphNames$Walk" 44 7 7 0 := ⟨"GraphNames$Tree", TX7, 11, tyX7, "GraphNames$Walk", rfl, inGX7, tyX7_ok, nmX7, by decide, (lw_good_at w_326 rfl), Or.inl rfl, rfl, rfl, by decide⟩
theorem fp_X8_44_X7 : z_FL "GraphNames$Walk" 44 7 7 0 false := ⟨"GraphNames$Tree", TX7, 11, tyX7, "GraphNames$Walk", rfl, inGX7, tyX7_ok, nmX7, by decide, (lw_good_at w_326 rfl), Or.inl rfl, rfl, rfl, rfl, by decide, fun h => Bool.noConfusion h⟩
theorem fl_X9_215_X6 : z_FLg "GraphNames" 215 6 7 0 := ⟨"GraphNames$Search", TX6, 13, tyX6, "GraphNames$Search", rfl, inGX6, tyX6_ok, nmX6, by decide, (lw_good_at w_327 rfl), Or.inr (lw_good_at w_328 rfl), rfl, rfl, by decide⟩
theorem fl_X8_47_X6 : z_FLg "GraphNames$Walk" 47 6 8 1 := ⟨"GraphNames$Search", TX6, 13, tyX6, "GraphNames$Walk", rfl, inGX6, tyX6_ok, nmX6, by decide, (lw_good_at w_329 rfl), Or.inl rfl, rfl, rfl, by decide⟩
theorem fp_X8_47_X6 : z_FL "GraphNames$Walk" 47 6 8 1 false := ⟨"GraphNames$Search", TX6, 13, tyX6, "GraphNames$Walk", rfl, inGX6, tyX6_ok, nmX6, by decide, (lw_good_at w_329 rfl), Or.inl rfl, rfl, rfl, rfl, by decide, fun h => Bool.noConfusion h⟩
theorem fl_X8_47_X7 : z_FLg "GraphNames$Walk" 47 7 8 1 := ⟨"GraphNames$Tree", TX7, 11, tyX7, "GraphNames$Walk", rfl, inGX7, tyX7_ok, nmX7, by decide, (lw_good_at w_329 rfl), Or.inl rfl, rfl, rfl, by decide⟩
theorem fp_X8_47_X7 : z_FL "GraphNames$Walk" 47 7 8 1 false := ⟨"GraphNames$Tree", TX7, 11, tyX7, "GraphNames$Walk", rfl, inGX7, tyX7_ok, nmX7, by decide, (lw_good_at w_329 rfl), Or.inl rfl, rfl, rfl, rfl, by decide, fun h => Bool.noConfusion h⟩
theorem fl_X7_7_X7 : z_FLg "GraphNames$Tree" 7 7 9 0 := ⟨"GraphNames$Tree", TX7, 11, tyX7, "GraphNames$Tree", rfl, inGX7, tyX7_ok, nmX7, by decide, (lw_good_at w_364 rfl), Or.inl rfl, rfl, rfl, by decide⟩
theorem fp_X7_7_X7 : z_FL "GraphNames$Tree" 7 7 9 0 false := ⟨"GraphNames$Tree", TX7, 11, tyX7, "GraphNames$Tree", rfl, inGX7, tyX7_ok, nmX7, by decide, (lw_good_at w_364 rfl), Or.inl rfl, rfl, rfl, rfl, by decide, fun h => Bool.noConfusion h⟩
theorem fl_X9_193_X7 : z_FLg "GraphNames" 193 7 9 0 := ⟨"GraphNames$Tree", TX7, 11, tyX7, "GraphNames$Tree", rfl, inGX7, tyX7_ok, nmX7, by decide, (lw_good_at w_365 rfl), Or.inl rfl, rfl, rfl, by decide⟩
theorem fl_X7_13_X7 : z_FLg "GraphNames$Tree" 13 7 10 0 := ⟨"GraphNames$Tree", TX7, 11, tyX7, "GraphNames$Tree", rfl, inGX7, tyX7_ok, nmX7, by decide, (lw_good_at w_366 rfl), Or.inl rfl, rfl, rfl, by decide⟩
theorem fp_X7_13_X7 : z_FL "GraphNames$Tree" 13 7 10 0 false := ⟨"GraphNames$Tree", TX7, 11, tyX7, "GraphNames$Tree", rfl, inGX7, tyX7_ok, nmX7, by decide, (lw_good_at w_366 rfl), Or.inl rfl, rfl, rfl, rfl, by decide, fun h => Bool.noConfusion h⟩
theorem fl_X9_203_X7 : z_FLg "GraphNames" 203 7 10 0 := ⟨"GraphNames$Tree", TX7, 11, tyX7, "GraphNames$Tree", rfl, inGX7, tyX7_ok, nmX7, by decide, (lw_good_at w_367 rfl), Or.inl rfl, rfl, rfl, by decide⟩
theorem fl_X9_11_X9 : z_FLg "GraphNames" 11 8 0 3 := ⟨"GraphNames", TX9, 14, tyX9, "GraphNames", rfl, inGX9, tyX9_ok, nmX9, by decide, (lw_good_at w_383 rfl), Or.inl rfl, rfl, rfl, by decide⟩
theorem fp_X9_11_X9 : z_FL "GraphNames" 11 8 0 3 true := ⟨"GraphNames", TX9, 14, tyX9, "GraphNames", rfl, inGX9, tyX9_ok, nmX9, by decide, (lw_good_at w_383 rfl), Or.inl rfl, rfl, rfl, rfl, by decide, fun _ => rfl⟩
theorem fl_X9_17_X9 : z_FLg "GraphNames" 17 8 1 3 := ⟨"GraphNames", TX9, 14, tyX9, "GraphNames", rfl, inGX9, tyX9_ok, nmX9, by decide, (lw_good_at w_384 rfl), Or.inl rfl, rfl, rfl, by decide⟩
theorem fp_X9_17_X9 : z_FL "GraphNames" 17 8 1 3 true := ⟨"GraphNames", TX9, 14, tyX9, "GraphNames", rfl, inGX9, tyX9_ok, nmX9, by decide, (lw_good_at w_384 rfl), Or.inl rfl, rfl, rfl, rfl, by decide, fun _ => rfl⟩
theorem fl_X9_23_X9 : z_FLg "GraphNames" 23 8 2 3 := ⟨"GraphNames", TX9, 14, tyX9, "GraphNames", rfl, inGX9, tyX9_ok, nmX9, by decide, (lw_good_at w_385 rfl), Or.inl rfl, rfl, rfl, by decide⟩
theorem fp_X9_23_X9 : z_FL "GraphNames" 23 8 2 3 true := ⟨"GraphNames", TX9, 14, tyX9, "GraphNames", rfl, inGX9, tyX9_ok, nmX9, by decide, (lw_good_at w_385 rfl), Or.inl rfl, rfl, rfl, rfl, by decide, fun _ => rfl⟩
theorem fl_X9_30_X9 : z_FLg "GraphNames" 30 8 3 3 := ⟨"GraphNames", TX9, 14, tyX9, "GraphNames", rfl, inGX9, tyX9_ok, nmX9, by decide, (lw_good_at w_386 rfl), Or.inl rfl, rfl, rfl, by decide⟩
theorem fp_X9_30_X9 : z_FL "GraphNames" 30 8 3 3 true := ⟨"GraphNames", TX9, 14, tyX9, "GraphNames", rfl, inGX9, tyX9_ok, nmX9, by decide, (lw_good_at w_386 rfl), Or.inl rfl, rfl, rfl, rfl, by decide, fun _ => rfl⟩
theorem fl_X9_37_X9 : z_FLg "GraphNames" 37 8 4 3 := ⟨"GraphNames", TX9, 14, tyX9, "GraphNames", rfl, inGX9, tyX9_ok, nmX9, by decide, (lw_good_at w_387 rfl), Or.inl rfl, rfl, rfl, by decide⟩
theorem fp_X9_37_X9 : z_FL "GraphNames" 37 8 4 3 true := ⟨"GraphNames", TX9, 14, tyX9, "GraphNames", rfl, inGX9, tyX9_ok, nmX9, by decide, (lw_good_at w_387 rfl), Or.inl rfl, rfl, rfl, rfl, by decide, fun _ => rfl⟩
theorem fl_X9_41_X9 : z_FLg "GraphNames" 41 8 5 3 := ⟨"GraphNames", TX9, 14, tyX9, "GraphNames", rfl, inGX9, tyX9_ok, nmX9, by decide, (lw_good_at w_388 rfl), Or.inl rfl, rfl, rfl, by decide⟩
theorem fp_X9_41_X9 : z_FL "GraphNames" 41 8 5 3 true := ⟨"GraphNames", TX9, 14, tyX9, "GraphNames", rfl, inGX9, tyX9_ok, nmX9, by decide, (lw_good_at w_388 rfl), Or.inl rfl, rfl, rfl, rfl, by decide, fun _ => rfl⟩
theorem fp_X9_44_X9 : z_FL "GraphNames" 44 8 6 3 true := ⟨"GraphNames", TX9, 14, tyX9, "GraphNames", rfl, inGX9, tyX9_ok, nmX9, by decide, (lw_good_at w_389 rfl), Or.inl rfl, rfl, rfl, rfl, by decide, fun _ => rfl⟩
theorem fl_X9_51_X9 : z_FLg "GraphNames" 51 8 7 3 := ⟨"GraphNames", TX9, 14, tyX9, "GraphNames", rfl, inGX9, tyX9_ok, nmX9, by decide, (lw_good_at w_390 rfl), Or.inl rfl, rfl, rfl, by decide⟩
theorem fp_X9_51_X9 : z_FL "GraphNames" 51 8 7 3 true := ⟨"GraphNames", TX9, 14, tyX9, "GraphNames", rfl, inGX9, tyX9_ok, nmX9, by decide, (lw_good_at w_390 rfl), Or.inl rfl, rfl, rfl, rfl, by decide, fun _ => rfl⟩
theorem fl_X9_55_X9 : z_FLg "GraphNames" 55 8 8 3 := ⟨"GraphNames", TX9, 14, tyX9, "GraphNames", rfl, inGX9, tyX9_ok, nmX9, by decide, (lw_good_at w_391 rfl), Or.inl rfl, rfl, rfl, by decide⟩
theorem fp_X9_55_X9 : z_FL "GraphNames" 55 8 8 3 true := ⟨"GraphNames", TX9, 14, tyX9, "GraphNames", rfl, inGX9, tyX9_ok, nmX9, by decide, (lw_good_at w_391 rfl), Or.inl rfl, rfl, rfl, rfl, by decide, fun _ => rfl⟩
theorem fl_X9_61_X9 : z_FLg "GraphNames" 61 8 9 3 := ⟨"GraphNames", TX9, 14, tyX9, "GraphNames", rfl, inGX9, tyX9_ok, nmX9, by decide, (lw_good_at w_392 rfl), Or.inl rfl, rfl, rfl, by decide⟩
theorem fp_X9_61_X9 : z_FL "GraphNames" 61 8 9 3 true := ⟨"GraphNames", TX9, 14, tyX9, "GraphNames", rfl, inGX9, tyX9_ok, nmX9, by decide, (lw_good_at w_392 rfl), Or.inl rfl, rfl, rfl, rfl, by decide, fun _ => rfl⟩
theorem fp_X9_66_X9 : z_FL "GraphNames" 66 8 10 3 true := ⟨"GraphNames", TX9, 14, tyX9, "GraphNames", rfl, inGX9, tyX9_ok, nmX9, by decide, (lw_good_at w_393 rfl), Or.inl rfl, rfl, rfl, rfl, by decide, fun _ => rfl⟩
theorem fp_X9_71_X9 : z_FL "GraphNames" 71 8 11 3 true := ⟨"GraphNames", TX9, 14, tyX9, "GraphNames", rfl, inGX9, tyX9_ok, nmX9, by decide, (lw_good_at w_394 rfl), Or.inl rfl, rfl, rfl, rfl, by decide, fun _ => rfl⟩
theorem fl_X9_77_X9 : z_FLg "GraphNames" 77 8 12 3 := ⟨"GraphNames", TX9, 14, tyX9, "GraphNames", rfl, inGX9, tyX9_ok, nmX9, by decide, (lw_good_at w_395 rfl), Or.inl rfl, rfl, rfl, by decide⟩
theorem fp_X9_77_X9 : z_FL "GraphNames" 77 8 12 3 true := ⟨"GraphNames", TX9, 14, tyX9, "GraphNames", rfl, inGX9, tyX9_ok, nmX9, by decide, (lw_good_at w_395 rfl), Or.inl rfl, rfl, rfl, rfl, by decide, fun _ => rfl⟩
theorem fl_X9_81_X9 : z_FLg "GraphNames" 81 8 13 0 := ⟨"GraphNames", TX9, 14, tyX9, "GraphNames", rfl, inGX9, tyX9_ok, nmX9, by decide, (lw_good_at w_396 rfl), Or.inl rfl, rfl, rfl, by decide⟩
theorem fp_X9_81_X9 : z_FL "GraphNames" 81 8 13 0 false := ⟨"GraphNames", TX9, 14, tyX9, "GraphNames", rfl, inGX9, tyX9_ok, nmX9, by decide, (lw_good_at w_396 rfl), Or.inl rfl, rfl, rfl, rfl, by decide, fun h => Bool.noConfusion h⟩
theorem fl_X10_7_X10 : z_FLg "GraphNamesLaw$Draws" 7 9 0 3 := ⟨"GraphNamesLaw$Draws", TX10, 2, tyX10, "GraphNamesLaw$Draws", rfl, inGX10, tyX10_ok, nmX10, by decide, (lw_good_at w_846 rfl), Or.inl rfl, rfl, rfl, by decide⟩
theorem fp_X10_7_X10 : z_FL "GraphNamesLaw$Draws" 7 9 0 3 true := ⟨"GraphNamesLaw$Draws", TX10, 2, tyX10, "GraphNamesLaw$Draws", rfl, inGX10, tyX10_ok, nmX10, by decide, (lw_good_at w_846 rfl), Or.inl rfl, rfl, rfl, rfl, by decide, fun _ => rfl⟩
theorem fl_X10_13_X10 : z_FLg "GraphNamesLaw$Draws" 13 9 1 0 := ⟨"GraphNamesLaw$Draws", TX10, 2, tyX10, "GraphNamesLaw$Draws", rfl, inGX10, tyX10_ok, nmX10, by decide, (lw_good_at w_847 rfl), Or.inl rfl, rfl, rfl, by decide⟩
theorem fp_X10_13_X10 : z_FL "GraphNamesLaw$Draws" 13 9 1 0 false := ⟨"GraphNamesLaw$Draws", TX10, 2, tyX10, "GraphNamesLaw$Draws", rfl, inGX10, tyX10_ok, nmX10, by decide, (lw_good_at w_847 rfl), Or.inl rfl, rfl, rfl, rfl, by decide, fun h => Bool.noConfusion h⟩
theorem fl_J5_15_J4 : z_FLg "java/lang/AbstractStringBuilder" 15 11 0 3 := ⟨"java/lang/StringBuilder", TJ4, 4, tyJ4, "java/lang/AbstractStringBuilder", rfl, inGJ4, tyJ4_ok, nmJ4, by decide, (lw_good_at w_1114 rfl), Or.inl rfl, rfl, rfl, by decide⟩
theorem fp_J5_15_J4 : z_FL "java/lang/AbstractStringBuilder" 15 11 0 3 false := ⟨"java/lang/StringBuilder", TJ4, 4, tyJ4, "java/lang/AbstractStringBuilder", rfl, inGJ4, tyJ4_ok, nmJ4, by decide, (lw_good_at w_1114 rfl), Or.inl rfl, rfl, rfl, rfl, by decide, fun h => Bool.noConfusion h⟩
theorem fl_J5_22_J4 : z_FLg "java/lang/AbstractStringBuilder" 22 11 1 4 := ⟨"java/lang/StringBuilder", TJ4, 4, tyJ4, "java/lang/AbstractStringBuilder", rfl, inGJ4, tyJ4_ok, nmJ4, by decide, (lw_good_at w_1115 rfl), Or.inl rfl, rfl, rfl, by decide⟩
theorem fp_J5_22_J4 : z_FL "java/lang/AbstractStringBuilder" 22 11 1 4 false := ⟨"java/lang/StringBuilder", TJ4, 4, tyJ4, "java/lang/AbstractStringBuilder", rfl, inGJ4, tyJ4_ok, nmJ4, by decide, (lw_good_at w_1115 rfl), Or.inl rfl, rfl, rfl, rfl, by decide, fun h => Bool.noConfusion h⟩
theorem fl_J0_1048_J4 : z_FLg "java/lang/String" 1048 11 2 1 := ⟨"java/lang/StringBuilder", TJ4, 4, tyJ4, "java/lang/AbstractStringBuilder", rfl, inGJ4, tyJ4_ok, nmJ4, by decide, (lw_good_at w_1116 rfl), Or.inl rfl, rfl, rfl, by decide⟩
theorem fl_J5_79_J4 : z_FLg "java/lang/AbstractStringBuilder" 79 11 3 0 := ⟨"java/lang/StringBuilder", TJ4, 4, tyJ4, "java/lang/AbstractStringBuilder", rfl, inGJ4, tyJ4_ok, nmJ4, by decide, (lw_good_at w_1117 rfl), Or.inl rfl, rfl, rfl, by decide⟩
theorem fp_J5_79_J4 : z_FL "java/lang/AbstractStringBuilder" 79 11 3 0 false := ⟨"java/lang/StringBuilder", TJ4, 4, tyJ4, "java/lang/AbstractStringBuilder", rfl, inGJ4, tyJ4_ok, nmJ4, by decide, (lw_good_at w_1117 rfl), Or.inl rfl, rfl, rfl, rfl, by decide, fun h => Bool.noConfusion h⟩
theorem fl_J0_9_J0 : z_FLg "java/lang/String" 9 10 0 3 := ⟨"java/lang/String", TJ0, 4, tyJ0, "java/lang/String", rfl, inGJ0, tyJ0_ok, nmJ0, by decide, (lw_good_at w_1213 rfl), Or.inl rfl, rfl, rfl, by decide⟩
theorem fp_J0_9_J0 : z_FL "java/lang/String" 9 10 0 3 true := ⟨"java/lang/String", TJ0, 4, tyJ0, "java/lang/String", rfl, inGJ0, tyJ0_ok, nmJ0, by decide, (lw_good_at w_1213 rfl), Or.inl rfl, rfl, rfl, rfl, by decide, fun _ => rfl⟩
theorem fl_J0_15_J0 : z_FLg "java/lang/String" 15 10 1 4 := ⟨"java/lang/String", TJ0, 4, tyJ0, "java/lang/String", rfl, inGJ0, tyJ0_ok, nmJ0, by decide, (lw_good_at w_1214 rfl), Or.inl rfl, rfl, rfl, by decide⟩
theorem fp_J0_15_J0 : z_FL "java/lang/String" 15 10 1 4 true := ⟨"java/lang/String", TJ0, 4, tyJ0, "java/lang/String", rfl, inGJ0, tyJ0_ok, nmJ0, by decide, (lw_good_at w_1214 rfl), Or.inl rfl, rfl, rfl, rfl, by decide, fun _ => rfl⟩
theorem kc_J6_265 : Cond.constant "java/lang/Integer" 265 (1431655765 : Int32) ∈ lw_good := (lw_good_at w_449 rfl)
theorem kc_J6_266 : Cond.constant "java/lang/Integer" 266 (858993459 : Int32) ∈ lw_good := (lw_good_at w_450 rfl)
theorem kc_J6_267 : Cond.constant "java/lang/Integer" 267 (252645135 : Int32) ∈ lw_good := (lw_good_at w_451 rfl)
theorem kc_X0_76 : Cond.constantLong "GraphNames$Cells" 76 (9223372036854775807 : Int64) ∈ lw_good := (lw_good_at w_532 rfl)
theorem kc_J6_264 : Cond.constant "java/lang/Integer" 264 (65536 : Int32) ∈ lw_good := (lw_good_at w_553 rfl)
theorem kc_X9_302 : Cond.constant "GraphNames" 302 (2147483647 : Int32) ∈ lw_good := (lw_good_at w_745 rfl)
theorem kc_X1_43 : Cond.constantLong "GraphNames$Graph" 43 (48271 : Int64) ∈ lw_good := (lw_good_at w_756 rfl)
theorem kc_X1_45 : Cond.constantLong "GraphNames$Graph" 45 (2147483647 : Int64) ∈ lw_good := (lw_good_at w_757 rfl)
theorem kc_X10_17 : Cond.constant "GraphNamesLaw$Draws" 17 (2147483647 : Int32) ∈ lw_good := (lw_good_at w_857 rfl)
theorem kc_J5_38 : Cond.constant "java/lang/AbstractStringBuilder" 38 (2147483631 : Int32) ∈ lw_good := (lw_good_at w_1005 rfl)
theorem kc_J5_39 : Cond.constant "java/lang/AbstractStringBuilder" 39 (2147483647 : Int32) ∈ lw_good := (lw_good_at w_1006 rfl)
theorem kc_J2_20 : Cond.constant "java/lang/StringUTF16" 20 (1073741823 : Int32) ∈ lw_good := (lw_good_at w_1014 rfl)
theorem kc_J8_200 : Cond.constant "jdk/internal/util/ArraysSupport" 200 (2147483639 : Int32) ∈ lw_good := (lw_good_at w_1044 rfl)
theorem kc_L_144 : Cond.constant "GraphNamesLaw" 144 (2147483646 : Int32) ∈ lw_good := (lw_good_at w_1271 rfl)
